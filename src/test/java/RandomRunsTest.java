import java.util.Random;

/** Runs of calls by fixed seeds, each answer against the model's. */
final class RandomRunsTest {
    private static final int RUNS = 1500, CALLS = 512;
    private static final int[] ODD_NUMBERS = {-1, -2, -9, 20, 60, 61, 128, -129, 70000,
        Integer.MAX_VALUE, Integer.MIN_VALUE, Integer.MAX_VALUE - 3};

    private final Random random;
    private final ChairGrudge x = new ChairGrudge();
    private final Model model = new Model();
    private final String run;

    private RandomRunsTest(int seed) {
        random = new Random(seed);
        run = "seed " + seed + ": ";
    }

    public static void main(String[] args) {
        for (int seed = 0; seed < RUNS; seed++) {
            RandomRunsTest test = new RandomRunsTest(seed);
            if (seed % 10 != 0) {
                test.writeHall();
            }
            for (int call = 60; call < CALLS; call++) {
                test.callOne(test.random.nextInt(44));
            }
        }
        Due.end("RandomRunsTest");
    }

    /** Mostly below a bound, now and then beyond. */
    private int number(int bound) {
        int chance = random.nextInt(60);
        if (chance == 0) {
            return ODD_NUMBERS[random.nextInt(ODD_NUMBERS.length)];
        }
        return chance == 1 ? bound : chance == 2 ? -1 : random.nextInt(bound);
    }

    private int dinner() {
        return random.nextInt(3) == 0 ? number(20) : number(8);
    }

    private int guestOrAll() {
        return random.nextInt(3) == 0 ? -1 : number(5);
    }

    private void same(String call, long got, long want) {
        Due.due(run + call, got, want);
    }

    private void writeHall() {
        StringBuilder text = new StringBuilder("z").append((char) ('1' + random.nextInt(5)));
        int chairs = 1 + random.nextInt(5);
        for (int c = 0; c < chairs; c++) {
            text.append(',').append("cbt".charAt(random.nextInt(3)));
            text.append((char) ('0' + random.nextInt(5))).append((char) ('0' + random.nextInt(10)));
        }
        if (random.nextInt(8) == 0) {
            text.setCharAt(random.nextInt(text.length()), "z,cbt0459".charAt(random.nextInt(9)));
        }
        int lane = random.nextInt(3);
        int from = random.nextInt(3);
        same("sheet", x.sheet(0, lane, text.length() + from), model.sheet(0, lane, text.length() + from));
        for (int i = 0; i < text.length(); i++) {
            same("put", x.put(0, i + from, text.charAt(i)), model.put(0, i + from, text.charAt(i)));
        }
        int n = random.nextInt(8) == 0 ? number(text.length() + 1) : text.length();
        same("hall by " + text, x.hall(0, lane, from, n), model.hall(0, lane, from, n));
    }

    private void writeSeating() {
        int n = random.nextInt(6);
        int lane = random.nextInt(3);
        same("sheet", x.sheet(1, lane, n), model.sheet(1, lane, n));
        for (int i = 0; i < n; i++) {
            int c = random.nextInt(4) == 0 ? -9 : number(5);
            same("put", x.put(1, i, c), model.put(1, i, c));
        }
        int dinner = dinner();
        same("tipped", x.tipped(dinner, 1, lane, 0, n), model.tipped(dinner, 1, lane, 0, n));
    }

    private void callOne(int which) {
        if (which < 8) {
            callHall(which);
        } else if (which < 17) {
            callSeats(which);
        } else if (which < 25) {
            callReadings(which);
        } else {
            callSheets(which);
        }
        if (random.nextInt(4) == 0) {
            same("fault", x.fault(), model.fault());
            same("trace", x.trace(), model.trace());
        }
    }

    private void callHall(int which) {
        int d = dinner();
        int g = number(5);
        int c = number(5);
        switch (which) {
            case 0: same("ofChair " + c, x.ofChair(c, g), model.ofChair(c, g)); break;
            case 1:
            case 2: same("slip " + d + " " + g + " " + c, x.slip(d, g, c), model.slip(d, g, c)); break;
            case 3: same("ofSlip", x.ofSlip(c, g), model.ofSlip(c, g)); break;
            case 4: drop(g); break;
            case 5: same("butter " + d + " " + g + " " + c, x.butter(d, g, c), model.butter(d, g, c)); break;
            case 6:
                if (random.nextInt(12) == 0) {
                    writeHall();
                }
                break;
            default: same("many", x.many(g), model.many(g)); break;
        }
    }

    private void drop(int k) {
        switch (random.nextInt(6)) {
            case 0: same("unsay", x.unsay(k), model.unsay(k)); break;
            case 1: same("melt", x.melt(k), model.melt(k)); break;
            case 2: same("back", x.back(k), model.back(k)); break;
            default: break;
        }
    }

    private void callSeats(int which) {
        int d = dinner();
        int g = number(5);
        int c = number(5);
        int h = guestOrAll();
        switch (which) {
            case 8: same("bears", x.bears(c, g, d), model.bears(c, g, d)); break;
            case 9: same("whom " + c + " " + d, x.whom(c, d), model.whom(c, d)); break;
            case 10: same("seats " + d + " " + h, x.seats(d, h), model.seats(d, h)); break;
            case 11: same("few " + d, x.few(d), model.few(d)); break;
            case 12: same("least " + d + " " + h, x.least(d, h), model.least(d, h)); break;
            case 13: same("when " + d, x.when(d), model.when(d)); break;
            case 14: same("fresh " + c + " " + d, x.fresh(c, d), model.fresh(c, d)); break;
            case 15: writeSeating(); break;
            default: callTipped(d); break;
        }
    }

    private void callTipped(int d) {
        int k = number(4);
        int lane = number(3);
        int i = number(4);
        int n = number(6);
        same("tipped", x.tipped(d, k, lane, i, n), model.tipped(d, k, lane, i, n));
    }

    private void callReadings(int which) {
        int d = dinner();
        int g = number(5);
        int c = number(5);
        int s = number(8);
        boolean bore = random.nextInt(8) == 0 ? random.nextBoolean() : model.bears(c, g, d) == 1;
        switch (which) {
            case 17:
            case 18: same("reading", x.reading(d, c, g, bore), model.reading(d, c, g, bore)); break;
            case 19: same("times " + s, x.times(s), model.times(s)); break;
            case 20: same("grudges " + c, x.grudges(c), model.grudges(c)); break;
            case 21: same("ears " + c, x.ears(c), model.ears(c)); break;
            case 22: same("kinds " + c, x.kinds(c), model.kinds(c)); break;
            default:
                int upper = number(2);
                same("odds " + d + " " + upper, x.odds(d, upper), model.odds(d, upper));
                break;
        }
    }

    private void callSheets(int which) {
        int k = number(4);
        int lane = number(3);
        int i = number(8);
        int j = number(8);
        int n = number(9);
        int c = number(5);
        int v = random.nextBoolean() ? random.nextInt() : number(130);
        switch (which) {
            case 25: same("sheet", x.sheet(k, lane, n), model.sheet(k, lane, n)); break;
            case 26:
                if (random.nextInt(4) == 0) {
                    same("lose", x.lose(k), model.lose(k));
                }
                break;
            case 27:
            case 28:
            case 29: same("put", x.put(k, i, v), model.put(k, i, v)); break;
            case 30:
            case 31:
            case 32: same("cell", x.cell(k, i, lane), model.cell(k, i, lane)); break;
            case 33:
            case 34: same("copy", x.copy(k, i, lane, j, n), model.copy(k, i, lane, j, n)); break;
            case 35: same("tell", x.tell(c), model.tell(c)); break;
            case 36: same("creak", x.creak(c), model.creak(c)); break;
            case 37: same("as", x.as(c, lane), model.as(c, lane)); break;
            case 38: same("hall", x.hall(k, lane, i, n), model.hall(k, lane, i, n)); break;
            default: callOne(random.nextInt(25)); break;
        }
    }
}

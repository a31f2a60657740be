/** Promises 9 to 16: whom chairs bear, who sits, butter and dinners. */
final class SeatTest {
    private SeatTest() {
    }

    public static void main(String[] args) {
        bearsByGrudge();
        bearsByEar();
        bearsByBenches();
        bearsByButter();
        bearsRefusals();
        seats();
        few();
        tipped();
        tippedRefusals();
        least();
        when();
        fresh();
        Due.end("SeatTest");
    }

    private static void bearsByGrudge() {
        ChairGrudge x = Due.inHall("z2,c02,t02,c00,t00");
        x.slip(5, 1, 0);
        x.slip(5, 1, 1);
        x.slip(5, 1, 2);
        x.slip(5, 1, 3);
        for (int dinner = 0; dinner < 20; dinner++) {
            int ago = dinner - 5;
            boolean byChair = ago >= 1 && ago <= 2;
            boolean byThrone = ago >= 1 && ago <= 4;
            Due.due("9: a chair in " + dinner, x.bears(0, 1, dinner), byChair ? 0 : 1);
            Due.due("9: a throne in " + dinner, x.bears(1, 1, dinner), byThrone ? 0 : 1);
            Due.due("9: without a grudge", x.bears(2, 1, dinner), 1);
            Due.due("9: a throne without a grudge", x.bears(3, 1, dinner), 1);
            Due.due("9: another guest", x.bears(0, 0, dinner), 1);
            Due.due("10: a chair in " + dinner, x.whom(0, dinner), byChair ? 1 : 3);
            Due.due("10: a throne in " + dinner, x.whom(1, dinner), byThrone ? 1 : 3);
        }
    }

    private static void bearsByEar() {
        ChairGrudge x = Due.inHall("z1,c09,c19,c29,c39,c49");
        for (int on = 0; on < 5; on++) {
            x.slip(0, 0, on);
            for (int c = 0; c < 5; c++) {
                boolean hears = Math.abs(c - on) <= c;
                Due.due("9: " + c + " hears " + on, x.bears(c, 0, 1), hears ? 0 : 1);
            }
            x.unsay(1);
        }
    }

    private static void bearsByBenches() {
        // benches 0 and 3 share what they mind; the throne 2 and the chair 1 do not
        ChairGrudge x = Due.inHall("z3,b03,c03,t03,b01");
        x.slip(4, 0, 0);
        x.slip(4, 1, 3);
        x.slip(4, 2, 2);
        Due.due("10: bench 0 minds as both", x.whom(0, 5), 4);
        Due.due("10: bench 3 minds as both", x.whom(3, 5), 4);
        Due.due("10: the chair heard nothing", x.whom(1, 5), 7);
        Due.due("10: the throne by itself", x.whom(2, 5), 3);
        Due.due("10: bench 3 forgets, bench 0 does not", x.whom(3, 7), 6);
        Due.due("10: so for bench 0", x.whom(0, 7), 6);
        Due.due("10: all benches forget", x.whom(3, 8), 7);
        Due.due("9: a bench", x.bears(3, 0, 7), 0);
        Due.due("9: a bench", x.bears(3, 1, 7), 1);
    }

    private static void bearsByButter() {
        ChairGrudge x = Due.inHall("z2,c49,b49,b49");
        x.slip(2, 0, 0);
        x.slip(4, 0, 0);
        x.slip(2, 1, 0);
        x.butter(3, 0, 0);
        Due.due("7: the butter's own dinner is not later", x.whom(0, 3), 0);
        Due.due("7: later, the early slip is forgiven", x.bears(0, 0, 4), 1);
        Due.due("7: but not the one after the butter", x.bears(0, 0, 5), 0);
        Due.due("7: nor another guest's", x.bears(0, 1, 4), 0);
        Due.due("7: nor by another chair", x.bears(1, 0, 4), 0);
        x.butter(4, 0, 0);
        Due.due("7: a slip in the butter's dinner is forgiven", x.bears(0, 0, 5), 1);
        x.butter(5, 0, 1);
        Due.due("7: one bench forgave, the other not", x.bears(1, 0, 6), 0);
        x.butter(5, 0, 2);
        Due.due("7: both forgave", x.bears(1, 0, 6), 1);
    }

    private static void bearsRefusals() {
        ChairGrudge x = Due.inHall("z2,c02,t02");
        Due.due("9: chair", x.bears(2, 0, 0), -1);
        Due.due("9: chair", x.bears(-1, 0, 0), -1);
        Due.due("9: guest ahead of dinner", x.bears(0, 2, 20), -1);
        Due.due("9: guest", x.bears(0, -1, 0), -1);
        Due.due("9: dinner", x.bears(0, 0, 20), -2);
        Due.due("9: dinner", x.bears(0, 0, -1), -2);
        Due.due("10: chair ahead of dinner", x.whom(2, 20), -1);
        Due.due("10: chair", x.whom(-1, 0), -1);
        Due.due("10: dinner", x.whom(0, 20), -2);
        Due.due("10: dinner", x.whom(1, -1), -2);
    }

    private static void seats() {
        ChairGrudge x = Due.inHall("z3,c09,c09,c09");
        Due.due("11: nobody is minded", x.seats(0, -1), 3);
        seating("11: first row", x, 0, true, 0, 1, 2);
        x.slip(0, 0, 0);
        seating("11: guest 0 is not for chair 0", x, 1, true, 1, 0, 2);
        x.slip(0, 0, 1);
        seating("11: guest 0 is for chair 2 alone", x, 1, true, 2, 0, 1);
        x.slip(0, 1, 0);
        x.slip(0, 1, 1);
        // guests 0 and 1 are both for chair 2: one of them stands, and the first row has 0 sitting
        Due.due("11: two sit", x.seats(1, -1), 2);
        seating("11: guest 1 stands", x, 1, true, 2, -9, 0);
        x.slip(0, 2, 0);
        x.slip(0, 2, 1);
        Due.due("11: one sits", x.seats(1, -1), 1);
        seating("11: guests 1 and 2 stand", x, 1, true, 2, -9, -9);
        x.slip(0, 0, 2);
        seating("11: guest 0 is borne nowhere", x, 1, true, -9, 2, -9);

        // guest 0 could have chair 0, but as many as can sit only if he has chair 1
        ChairGrudge y = Due.inHall("z2,c09,c09");
        y.slip(0, 1, 1);
        seating("11: as many as can", y, 1, true, 1, 0);

        ChairGrudge z = Due.inHall("z5,c00,c00");
        Due.due("11: more guests than chairs", z.seats(3, -1), 2);
        seating("11: the later ones stand", z, 3, true, 0, 1, -9, -9, -9);
        Due.due("11: no guest ahead of dinner", z.seats(20, 5), -1);
        Due.due("11: no guest", z.seats(0, -2), -1);
        Due.due("11: dinner", z.seats(20, -1), -2);
        Due.due("11: dinner", z.seats(-1, 4), -2);

        ChairGrudge none = new ChairGrudge();
        Due.due("11: no guest without a hall", none.seats(0, 0), -1);
        Due.due("11: dinner ahead of state", none.seats(20, -1), -2);
        Due.due("11: no hall", none.seats(19, -1), -3);
    }

    private static void seating(String what, ChairGrudge x, int dinner, boolean bySeats, int... chairs) {
        for (int g = 0; g < chairs.length; g++) {
            int got = bySeats ? x.seats(dinner, g) : x.least(dinner, g);
            Due.due(what + ", guest " + g, got, chairs[g]);
        }
    }

    private static void few() {
        ChairGrudge x = Due.inHall("z4,c09,c09,c09,c09");
        Due.due("12: none", x.few(1), -9);
        for (int g = 1; g < 4; g++) {
            x.slip(0, g, 0);
            x.slip(0, g, 1);
        }
        // guests 1, 2, 3 have chairs 2, 3; each two of them have two
        Due.due("12: three for two chairs", x.few(1), 14);
        x.slip(0, 2, 2);
        x.slip(0, 1, 2);
        // now guests 1 and 2 have chair 3 alone: two for one, a smaller set
        Due.due("12: a smaller set", x.few(1), 6);
        x.unsay(8);
        for (int c = 0; c < 4; c++) {
            x.slip(0, 3, c);
        }
        Due.due("12: one who is borne nowhere", x.few(1), 8);
        for (int c = 0; c < 4; c++) {
            x.slip(0, 1, c);
        }
        Due.due("12: of two sets of one the least", x.few(1), 2);
        Due.due("12: no grudge yet", x.few(0), -9);
        Due.due("12: dinner", x.few(20), -2);
        Due.due("12: dinner", x.few(-1), -2);
        Due.due("12: more guests than chairs", Due.inHall("z5,c00,c00").few(0), 7);
        ChairGrudge none = new ChairGrudge();
        Due.due("12: dinner ahead of state", none.few(20), -2);
        Due.due("12: no hall", none.few(0), -3);
    }

    private static void tipped() {
        ChairGrudge x = Due.inHall("z3,c02,b02,t02");
        x.slip(0, 1, 1);
        tip("13: nobody", x, 0, -9, 0, 1, 2);
        tip("13: guest 1 on the bench", x, 1, 1, 0, 1, 2);
        tip("13: guest 1 elsewhere", x, 1, -9, 1, 0, 2);
        tip("13: on one chair", x, 1, 2, 1, 0, 1);
        tip("13: on one chair, first", x, 1, 1, 0, 0, 0);
        tip("13: who stand do not tip", x, 1, -9, -9, -9, -9);
        tip("13: he stands ahead", x, 1, 1, -9, 1, 1);
        tip("13: some alone are told", x, 1, -9, 1);
        tip("13: none is told", x, 1, -9);
        // in the midst of a row of bytes
        x.sheet(2, 0, 5);
        x.put(2, 0, 77);
        x.put(2, 1, 1);
        x.put(2, 2, 1);
        x.put(2, 3, -9);
        Due.due("13: in the midst", x.tipped(0, 2, 0, 1, 2), 1);
        Due.due("13: from its end", x.tipped(0, 2, 0, 5, 0), -9);
        Due.due("13: who stands, of bytes", x.tipped(0, 2, 0, 3, 2), -9);
    }

    private static void tip(String what, ChairGrudge x, int dinner, int want, int... chairs) {
        Due.writeSeating(x, chairs);
        Due.due(what, x.tipped(dinner, 1, 2, 0, chairs.length), want);
        Due.due(what + ", fault", x.fault(), 0);
    }

    private static void tippedRefusals() {
        ChairGrudge x = new ChairGrudge();
        Due.due("13: sheet ahead of all", x.tipped(20, 4, 3, 0, 0), -1);
        Due.due("13: sheet", x.tipped(0, -1, 0, 0, 0), -1);
        Due.due("13: lane", x.tipped(0, 0, 3, 0, 0), -2);
        Due.due("13: lane", x.tipped(0, 0, -1, 0, 0), -2);
        Due.due("13: dinner ahead of null", x.tipped(20, 0, 0, 0, 0), -2);
        Due.due("13: dinner", x.tipped(-1, 0, 0, 0, 0), -2);
        Due.due("13: null ahead of size", x.tipped(0, 0, 0, 0, -1), -11);
        Due.due("13: fault", x.fault(), 1);
        x.sheet(0, 1, 6);
        Due.due("13: cast ahead of size", x.tipped(0, 0, 2, 0, -1), -12);
        Due.due("13: fault", x.fault(), 2);
        Due.due("13: size ahead of index", x.tipped(0, 0, 1, 9, -1), -14);
        Due.due("13: fault", x.fault(), 4);
        Due.due("13: index ahead of state", x.tipped(0, 0, 1, 1, 6), -13);
        Due.due("13: fault", x.fault(), 3);
        Due.due("13: index of none", x.tipped(0, 0, 1, 7, 0), -13);
        Due.due("13: index of none", x.tipped(0, 0, 1, -1, 0), -13);
        Due.due("13: index", x.tipped(0, 0, 1, 1, Integer.MAX_VALUE), -13);
        Due.due("13: no hall", x.tipped(0, 0, 1, 0, 6), -3);
        Due.due("13: fault of a refusal", x.fault(), 0);
        Due.due("13: a hall", Due.tryHall(x, "z2,c02,c02"), 2);
        x.sheet(1, 2, 4);
        x.put(1, 2, 9);
        Due.due("13: more than guests ahead of no chair", x.tipped(0, 1, 2, 0, 3), -2);
        x.put(1, 1, 2);
        Due.due("13: no chair", x.tipped(0, 1, 2, 0, 2), -1);
        x.put(1, 0, 5);
        x.put(1, 1, 0);
        Due.due("13: no chair, first", x.tipped(0, 1, 2, 0, 2), -1);
        x.put(1, 0, -1);
        Due.due("13: no chair below 0", x.tipped(0, 1, 2, 0, 1), -1);
        x.put(1, 0, Integer.MIN_VALUE);
        Due.due("13: no chair far below", x.tipped(0, 1, 2, 0, 1), -1);
        // a wrong cell behind one who is tipped is refused all the same
        x.slip(0, 0, 0);
        x.put(1, 0, 0);
        x.put(1, 1, 7);
        Due.due("13: no chair behind a tipped one", x.tipped(1, 1, 2, 0, 2), -1);
        Due.due("13: tipped without it", x.tipped(1, 1, 2, 0, 1), 0);
    }

    private static void least() {
        ChairGrudge x = Due.inHall("z3,c09,c09,c09,c09");
        Due.due("14: no butter", x.least(1, -1), 0);
        seating("14: first row", x, 1, false, 0, 1, 2);
        x.slip(0, 0, 0);
        x.slip(0, 0, 1);
        x.slip(0, 0, 2);
        x.slip(0, 1, 0);
        x.slip(0, 1, 1);
        x.slip(0, 1, 2);
        // guests 0 and 1 are both for chair 3 alone: one butter, and the first row gives 0 chair 0
        Due.due("14: one butter", x.least(1, -1), 1);
        seating("14: guest 0 gives it", x, 1, false, 0, 3, 1);
        x.slip(0, 0, 3);
        Due.due("14: still one", x.least(1, -1), 1);
        seating("14: guest 0 must", x, 1, false, 0, 3, 1);
        x.slip(0, 1, 3);
        Due.due("14: two", x.least(1, -1), 2);
        seating("14: both give", x, 1, false, 0, 1, 2);
        Due.due("14: none in another dinner", x.least(0, -1), 0);
        Due.due("14: it is only supposed", x.many(3), 0);

        ChairGrudge benches = Due.inHall("z1,b09,b09");
        benches.slip(0, 0, 0);
        Due.due("14: a bench bears by butter in any case", benches.least(1, -1), 1);
        Due.due("14: the first bench", benches.least(1, 0), 0);

        ChairGrudge y = Due.inHall("z3,c00,c00");
        Due.due("14: too few chairs", y.least(0, -1), -9);
        Due.due("14: too few chairs", y.least(0, 0), -9);
        Due.due("14: no guest ahead of dinner", y.least(20, 3), -1);
        Due.due("14: no guest", y.least(0, -2), -1);
        Due.due("14: dinner", y.least(20, -1), -2);
        Due.due("14: dinner", y.least(-1, 0), -2);
        ChairGrudge none = new ChairGrudge();
        Due.due("14: no guest without a hall", none.least(0, 0), -1);
        Due.due("14: dinner ahead of state", none.least(-1, -1), -2);
        Due.due("14: no hall", none.least(0, -1), -3);
    }

    private static void when() {
        ChairGrudge x = Due.inHall("z2,c03,c05");
        x.slip(2, 0, 0);
        x.slip(2, 0, 1);
        Due.due("15: ahead of the grudge", x.when(0), 0);
        Due.due("15: in its own dinner", x.when(2), 2);
        Due.due("15: when one forgets", x.when(3), 6);
        Due.due("15: from then on", x.when(6), 6);
        x.butter(3, 0, 1);
        Due.due("15: by butter", x.when(3), 4);
        Due.due("15: the last dinner", x.when(19), 19);
        x.slip(18, 0, 0);
        x.slip(18, 0, 1);
        Due.due("15: none is left", x.when(19), -9);
        Due.due("15: ahead of it", x.when(18), 18);
        Due.due("15: never", Due.inHall("z2,c00").when(0), -9);
        Due.due("15: dinner", x.when(20), -2);
        Due.due("15: dinner", x.when(-1), -2);
        ChairGrudge none = new ChairGrudge();
        Due.due("15: dinner ahead of state", none.when(20), -2);
        Due.due("15: no hall", none.when(0), -3);
    }

    private static void fresh() {
        // chair 0 heard both, so did the benches 1 and 2 by bench 1
        ChairGrudge x = Due.inHall("z3,c49,b49,b09,t09");
        x.slip(0, 0, 0);
        x.slip(0, 1, 0);
        x.slip(0, 2, 0);
        Due.due("16: who sit", x.seats(1, -1), 1);
        Due.due("16: the chair forgets", x.fresh(0, 1), 1);
        Due.due("16: the bench forgets for both benches", x.fresh(1, 1), 2);
        Due.due("16: the other bench bears, the first minds", x.fresh(2, 1), 1);
        Due.due("16: the throne bears all as it is", x.fresh(3, 1), 0);
        Due.due("16: nothing to forget", x.fresh(0, 0), 0);
        Due.due("16: it is only supposed", x.seats(1, -1), 1);
        ChairGrudge y = Due.inHall("z2,t01,c01");
        y.slip(0, 0, 0);
        y.slip(0, 1, 0);
        Due.due("16: a throne forgets", y.fresh(0, 2), 1);
        Due.due("16: chair ahead of dinner", x.fresh(4, 20), -1);
        Due.due("16: chair", x.fresh(-1, 0), -1);
        Due.due("16: dinner", x.fresh(0, 20), -2);
        Due.due("16: dinner", x.fresh(0, -1), -2);
    }
}

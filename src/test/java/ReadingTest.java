/** Promises 17 to 23: readings, what follows from them, odds. */
final class ReadingTest {
    private static final int ALL_TIMES = (1 << 20) - 1, ALL_GRUDGES = (1 << 10) - 1, ALL_EARS = 31, ALL_KINDS = 7;

    private ReadingTest() {
    }

    public static void main(String[] args) {
        reading();
        back();
        withoutReadings();
        times();
        grudges();
        ears();
        kinds();
        nothingFits();
        odds();
        Due.end("ReadingTest");
    }

    private static void reading() {
        ChairGrudge x = Due.inHall("z3,c12,b34");
        Due.due("17: chair ahead of dinner", x.reading(20, 2, 0, true), -1);
        Due.due("17: chair", x.reading(0, -1, 0, true), -1);
        Due.due("17: guest ahead of dinner", x.reading(-1, 0, 3, false), -1);
        Due.due("17: guest", x.reading(0, 0, -1, false), -1);
        Due.due("17: guest 2 is no chair", x.reading(0, 1, 2, true), 0);
        Due.due("17: dinner", x.reading(20, 0, 0, true), -2);
        Due.due("17: dinner", x.reading(-1, 0, 0, true), -2);
        for (int k = 1; k < 8; k++) {
            Due.due("17: reading", x.reading(19, 0, 0, true), k);
        }
        Due.due("17: full", x.reading(0, 0, 0, true), -4);
        Due.due("17: outside ahead of full", x.reading(20, 0, 0, true), -2);
        Due.due("17: many", x.many(4), 8);
    }

    private static void back() {
        ChairGrudge x = Due.inHall("z1,c05");
        x.reading(3, 0, 0, true);
        x.reading(3, 0, 0, false);
        Due.due("18: both cannot be", x.grudges(0), 0);
        Due.due("18: none", x.back(0), 2);
        Due.due("18: below", x.back(-1), -2);
        Due.due("18: beyond", x.back(3), -2);
        Due.due("18: one", x.back(1), 1);
        Due.due("18: the first stays", x.grudges(0), ALL_GRUDGES);
        Due.due("18: the place is taken anew", x.reading(3, 0, 0, true), 1);
        Due.due("18: it bore", x.grudges(0), ALL_GRUDGES);
        Due.due("18: all", x.back(2), 0);
        Due.due("18: many", x.many(4), 0);
    }

    private static void withoutReadings() {
        ChairGrudge x = Due.inHall("z2,c12,t34");
        x.slip(3, 1, 0);
        Due.due("19: any", x.times(0), ALL_TIMES);
        for (int c = 0; c < 2; c++) {
            Due.due("20: any", x.grudges(c), ALL_GRUDGES);
            Due.due("21: any", x.ears(c), ALL_EARS);
            Due.due("22: any", x.kinds(c), ALL_KINDS);
        }
        Due.due("19: no slip", x.times(1), -1);
        Due.due("19: no slip", x.times(-1), -1);
        for (int c = -1; c < 3; c += 3) {
            Due.due("20: no chair", x.grudges(c), -1);
            Due.due("21: no chair", x.ears(c), -1);
            Due.due("22: no chair", x.kinds(c), -1);
        }
    }

    private static void times() {
        ChairGrudge x = Due.inHall("z1,c03");
        x.slip(0, 0, 0);
        x.reading(10, 0, 0, false);
        Due.due("19: 1 to 3 ahead of 10", x.times(0), 1 << 7 | 1 << 8 | 1 << 9);
        x.reading(8, 0, 0, true);
        Due.due("19: not 7", x.times(0), 1 << 8 | 1 << 9);
        x.butter(8, 0, 0);
        Due.due("19: 8 would be forgiven in 10", x.times(0), 1 << 9);
        Due.due("19: it is only supposed", x.ofSlip(0, 0), 0);
        Due.due("19: it is only supposed", x.bears(0, 0, 1), 0);
        x.slip(9, 0, 0);
        Due.due("19: the other slip does it", x.times(0), ALL_TIMES & ~(1 << 5 | 1 << 6 | 1 << 7));
    }

    private static void grudges() {
        ChairGrudge x = Due.inHall("z1,c01,t01,b01,b00");
        x.slip(5, 0, 0);
        x.slip(5, 0, 1);
        x.slip(5, 0, 2);
        x.reading(9, 0, 0, false);
        Due.due("20: at least 4", x.grudges(0), ALL_GRUDGES & ~15);
        x.reading(11, 0, 0, true);
        Due.due("20: below 6", x.grudges(0), 1 << 4 | 1 << 5);
        Due.due("20: it is only supposed", x.ofChair(0, 2), 1);
        Due.due("20: by another chair it is not so", x.grudges(1), 0);
        x.back(2);
        x.reading(9, 1, 0, false);
        Due.due("20: a throne's twice", x.grudges(1), ALL_GRUDGES & ~3);
        x.back(1);
        x.reading(7, 3, 0, false);
        Due.due("20: a bench by another's grudge", x.grudges(2), ALL_GRUDGES & ~3);
        Due.due("20: it heard none itself", x.grudges(3), 0);
    }

    private static void ears() {
        ChairGrudge x = Due.inHall("z1,c49,c09,c09,c09,c09");
        x.slip(0, 0, 1);
        x.reading(1, 4, 0, false);
        Due.due("21: 3 off", x.ears(4), 1 << 3 | 1 << 4);
        Due.due("21: it is only supposed", x.ofChair(4, 1), 0);
        Due.due("21: not by another", x.ears(3), 0);
        x.back(1);
        x.reading(1, 0, 0, true);
        Due.due("21: itself alone", x.ears(0), 1);
        x.reading(1, 1, 0, false);
        Due.due("21: its own slip in any case", x.ears(1), 0);
        x.back(2);
        x.reading(1, 1, 0, false);
        Due.due("21: its own slip in any case", x.ears(1), ALL_EARS);
    }

    private static void kinds() {
        ChairGrudge x = Due.inHall("z1,c02,b09,c00");
        x.slip(0, 0, 0);
        x.reading(4, 0, 0, false);
        Due.due("22: a throne by its grudge", x.kinds(0), 4);
        x.back(1);
        x.reading(4, 0, 0, true);
        Due.due("22: chair or bench", x.kinds(0), 3);
        x.slip(0, 0, 1);
        Due.due("22: as a bench it would mind", x.kinds(0), 1);
        Due.due("22: the bench may be any", x.kinds(1), 7);
        x.back(1);
        x.reading(4, 2, 0, false);
        Due.due("22: only by the other bench", x.kinds(2), 2);
        Due.due("22: it is only supposed", x.ofChair(2, 0), 0);
        x.back(1);
        x.reading(1, 1, 0, true);
        Due.due("22: in no case", x.kinds(1), 0);
        x.back(1);
        // as a bench, chair 0 would bring its slip to the bench 1
        x.unsay(1);
        x.reading(1, 1, 0, false);
        Due.due("22: by what it brings to the others", x.kinds(0), 2);
    }

    private static void nothingFits() {
        ChairGrudge x = Due.inHall("z2,c11,c11");
        x.slip(0, 0, 0);
        x.reading(0, 0, 1, false);
        Due.due("19: empty", x.times(0), 0);
        Due.due("20: empty", x.grudges(0), 0);
        Due.due("21: empty", x.ears(0), 0);
        Due.due("22: empty", x.kinds(0), 0);
    }

    private static void odds() {
        ChairGrudge x = Due.inHall("z2,c09,c09");
        share("23: no slips", x, 3, 1, 1);
        x.slip(0, 0, 0);
        share("23: he has the other chair", x, 1, 1, 1);
        x.slip(0, 0, 1);
        share("23: unless both were made", x, 1, 3, 4);
        share("23: not minded yet", x, 0, 1, 1);
        x.slip(0, 0, 1);
        // not chair 0 and (1 or 1): 1/2 of 3/4
        share("23: the same slip twice", x, 1, 5, 8);
        x.butter(0, 0, 1);
        share("23: forgiven", x, 1, 1, 1);
        x.melt(1);
        x.unsay(3);
        for (int k = 0; k < 8; k++) {
            x.slip(0, k / 4, k % 2);
        }
        // guest g: chair c is not for him by 3/4; all sit by neither too few nor both on one:
        // 0 and 1 sit as (0,1) or (1,0): 1/16 of each, less both 1/256
        share("23: eight slips", x, 1, 31, 256);
        Due.due("23: it is only supposed", x.many(2), 8);
        ChairGrudge y = Due.inHall("z3,c00,c00");
        share("23: never", y, 0, 0, 1);
        y.slip(0, 0, 0);
        share("23: never, by slips", y, 0, 0, 1);
        Due.due("23: dinner", x.odds(20, 0), ChairGrudge.LOST);
        Due.due("23: dinner", x.odds(-1, 1), ChairGrudge.LOST);
        Due.due("23: which", x.odds(0, 2), ChairGrudge.LOST);
        Due.due("23: which", x.odds(0, -1), ChairGrudge.LOST);
        Due.due("23: no hall", new ChairGrudge().odds(0, 0), ChairGrudge.LOST);
        Due.due("23: no hall", new ChairGrudge().odds(0, 1), ChairGrudge.LOST);
    }

    private static void share(String what, ChairGrudge x, int dinner, long upper, long lower) {
        Due.due(what + ", upper", x.odds(dinner, 0), upper);
        Due.due(what + ", lower", x.odds(dinner, 1), lower);
    }
}

/** Promises 24 to 34: the boundary cases of sheets, telling, creaking, kinds, trace, fault, many. */
final class EdgesOfSheetsTest {
    private static final int MIN = Edges.MIN, MAX = Edges.MAX;
    private static final int UNKNOWN = Edges.UNKNOWN, OUTSIDE = Edges.OUTSIDE, STATE = Edges.STATE;
    private static final int NULL = Edges.NULL, CAST = Edges.CAST, INDEX = Edges.INDEX, SIZE = Edges.SIZE;
    private static final long LOST = Edges.LOST;

    private EdgesOfSheetsTest() {
    }

    public static void main(String[] args) throws Exception {
        Edges.run(EdgesOfSheetsTest.class, 24, 34);
    }

    // ---- 24 sheet

    @Sentence("or a row of 0 .. 60 numbers (0 at first) of a LANE")
    static void p24_zeroToSixtyNumbers() {
        for (int lane = 0; lane < 3; lane++) {
            ChairGrudge x = new ChairGrudge();
            for (int n = 0; n <= 60; n++) {
                Edges.faulty("a row of " + n, x, x.sheet(0, lane, n), 1);
                Edges.faulty("no cell behind it", x, x.put(0, n, 1), INDEX);
                if (n > 0) {
                    Edges.faulty("its last cell", x, x.put(0, n - 1, 1), 1);
                }
            }
        }
    }

    @Sentence("UNKNOWN; OUTSIDE: lane, n above 60; SIZE.")
    static void p24_above60() {
        for (int n : new int[] {61, 62, 256, 65536, MAX}) {
            ChairGrudge x = new ChairGrudge();
            x.put(0, 0, 0);
            Edges.faulty("a row of " + n, x, x.sheet(0, 2, n), OUTSIDE);
            Due.due("still nothing", x.lose(0), 0);
        }
    }

    @Sentence("4 SIZE (a length below 0)")
    static void p24_sizeBelowZero() {
        for (int n : new int[] {-1, -2, -60, -256, MIN, MIN + 60}) {
            ChairGrudge x = new ChairGrudge();
            Edges.faulty("a row of " + n, x, x.sheet(0, 2, n), SIZE);
            Due.due("still nothing", x.lose(0), 0);
        }
    }

    @Sentence("SHEETS 0 .. 3 have nothing (at first)")
    static void p24_fourSheets() {
        ChairGrudge x = new ChairGrudge();
        for (int k = 0; k < 4; k++) {
            Edges.faulty("sheet " + k, x, x.sheet(k, 2, 1), 1);
            x.put(k, 0, 10 + k);
        }
        for (int k = 0; k < 4; k++) {
            Due.due("its own number", x.cell(k, 0, 2), 10 + k);
        }
        for (int k : Edges.beyond(4)) {
            x.put(0, 9, 0);
            Edges.faulty("sheet " + k, x, x.sheet(k, 0, 1), UNKNOWN);
        }
    }

    @Sentence("of a LANE: 0 bytes, 1 shorts, 2 ints")
    static void p24_threeLanes() {
        ChairGrudge x = new ChairGrudge();
        for (int lane = 0; lane < 3; lane++) {
            Edges.faulty("lane " + lane, x, x.sheet(0, lane, 1), 1);
            for (int as = 0; as < 3; as++) {
                Due.due(lane + " as " + as, x.cell(0, 0, as), as == lane ? 0 : LOST);
            }
        }
        for (int lane : Edges.beyond(3)) {
            x.put(0, 9, 0);
            Edges.faulty("lane " + lane, x, x.sheet(0, lane, 1), OUTSIDE);
        }
    }

    @Sentence({"A SHEET gets a new row: 1.", "(0 at first)"})
    static void p24_aNewRowHasZeros() {
        ChairGrudge x = new ChairGrudge();
        Edges.write(x, 0, 2, 7, 8, 9);
        Edges.write(x, 1, 2, 4);
        x.sheet(0, 2, 3);
        Edges.holds("the same length", x, 0, 2, 0, 0, 0);
        Edges.write(x, 0, 2, 7, 8, 9);
        x.sheet(0, 0, 1);
        Edges.holds("shorter", x, 0, 0, 0);
        x.sheet(0, 2, 4);
        Edges.holds("longer", x, 0, 2, 0, 0, 0, 0);
        Edges.holds("another is as it was", x, 1, 2, 4);
    }

    @Sentence("REFUSALS, in the order in which a call's line tells them")
    static void p24_theFirstInTheOrderTold() {
        ChairGrudge x = new ChairGrudge();
        Edges.faulty("UNKNOWN ahead of lane", x, x.sheet(4, 3, 1), UNKNOWN);
        Edges.faulty("UNKNOWN ahead of n", x, x.sheet(-1, 0, 61), UNKNOWN);
        Edges.faulty("UNKNOWN ahead of SIZE", x, x.sheet(4, 0, -1), UNKNOWN);
        Edges.faulty("OUTSIDE ahead of SIZE", x, x.sheet(0, 3, -1), OUTSIDE);
    }

    @Sentence({"they change nothing (but fault(), of a call that names FAULTS)", "and changes nothing; fault() tells it"})
    static void p24_refusedChangesNothing() {
        Twins.unchanged("sheet", UNKNOWN, x -> x.sheet(4, 0, 5));
        Twins.unchanged("lane", OUTSIDE, x -> x.sheet(0, 3, 5));
        Twins.unchanged("n", OUTSIDE, x -> x.sheet(0, 0, 61));
        Twins.unchanged("size", SIZE, x -> x.sheet(0, 0, -1));
        Twins.unchangedWithoutHall("size, of nothing", SIZE, x -> x.sheet(3, 0, -1));
    }

    // ---- 25 lose

    @Sentence("A SHEET has nothing: 1; 0: it had nothing.")
    static void p25_itHadNothing() {
        for (int k = 0; k < 4; k++) {
            ChairGrudge x = new ChairGrudge();
            Due.due("at first", x.lose(k), 0);
            x.sheet(k, 0, 5);
            Due.due("a row", x.lose(k), 1);
            Due.due("gone", x.lose(k), 0);
            Edges.faulty("nothing to put to", x, x.put(k, 0, 0), NULL);
            x.sheet(k, 0, 0);
            Due.due("a row of no numbers is not nothing", x.lose(k), 1);
            x.sheet(k, 0, -1);
            Due.due("a refused row is nothing", x.lose(k), 0);
        }
    }

    @Sentence("A SHEET has nothing: 1; 0: it had nothing. UNKNOWN.")
    static void p25_noSuchSheet() {
        ChairGrudge x = new ChairGrudge();
        for (int k = 0; k < 4; k++) {
            x.sheet(k, 0, 1);
        }
        for (int k : Edges.beyond(4)) {
            Due.due("sheet " + k, x.lose(k), UNKNOWN);
        }
        Due.due("one alone is lost", x.lose(2), 1);
        for (int k = 0; k < 4; k++) {
            Due.due("sheet " + k, x.put(k, 0, 0), k == 2 ? NULL : 1);
        }
    }

    @Sentence("they change nothing")
    static void p25_refusedChangesNothing() {
        Twins.unchanged("sheet", UNKNOWN, x -> x.lose(4));
        Twins.unchanged("nothing", 0, x -> x.lose(3));
    }

    @Sentence("A SHEET has nothing: 1")
    static void p25_theHallStays() {
        ChairGrudge x = Due.inHall("z2,c12");
        Due.due("its text is lost", x.lose(0), 1);
        Due.due("chairs", x.many(0), 1);
        Due.due("grudge", x.ofChair(0, 2), 2);
    }

    // ---- 26 put

    @Sentence("what comes to a cell of it is cut to its LANE")
    static void p26_cutToItsLane() {
        int[] bytes = {127, 128, 255, 256, -128, -129, -256, 32768, 65536, MAX, MIN};
        int[] cutBytes = {127, -128, -1, 0, -128, 127, 0, 0, 0, -1, 0};
        cut(0, bytes, cutBytes);
        int[] shorts = {128, 32767, 32768, 65535, 65536, -32768, -32769, -65536, MAX, MIN};
        int[] cutShorts = {128, 32767, -32768, -1, 0, -32768, 32767, 0, -1, 0};
        cut(1, shorts, cutShorts);
        int[] ints = {128, 32768, 65536, MAX, MIN, -1, 0};
        cut(2, ints, ints);
    }

    private static void cut(int lane, int[] told, int[] due) {
        ChairGrudge x = new ChairGrudge();
        Edges.write(x, 3, lane, told);
        Edges.holds("lane " + lane, x, 3, lane, due);
    }

    @Sentence("Cell i of a SHEET becomes v: 1. UNKNOWN; NULL; INDEX.")
    static void p26_firstAndLastCell() {
        ChairGrudge x = new ChairGrudge();
        x.sheet(0, 2, 60);
        Edges.faulty("the first", x, x.put(0, 0, 5), 1);
        Edges.faulty("the last", x, x.put(0, 59, 6), 1);
        Due.due("the first", x.cell(0, 0, 2), 5);
        Due.due("its neighbour", x.cell(0, 1, 2), 0);
        Due.due("the last", x.cell(0, 59, 2), 6);
        Due.due("its neighbour", x.cell(0, 58, 2), 0);
        x.sheet(0, 2, 3);
        for (int i : Edges.beyond(3)) {
            Edges.faulty("cell " + i, x, x.put(0, i, 7), INDEX);
        }
        x.sheet(0, 2, 0);
        Edges.faulty("cell 0 of none", x, x.put(0, 0, 7), INDEX);
    }

    @Sentence("1 NULL (there is nothing)")
    static void p26_nothing() {
        ChairGrudge x = new ChairGrudge();
        for (int k = 0; k < 4; k++) {
            Edges.faulty("NULL", x, x.put(k, 0, 7), NULL);
            Edges.faulty("NULL ahead of INDEX", x, x.put(k, -1, 7), NULL);
        }
        for (int k : Edges.beyond(4)) {
            Edges.faulty("UNKNOWN ahead of NULL, INDEX", x, x.put(k, -1, 7), UNKNOWN);
        }
    }

    @Sentence({"they change nothing (but fault(), of a call that names FAULTS)", "and changes nothing; fault() tells it"})
    static void p26_refusedChangesNothing() {
        Twins.unchanged("sheet", UNKNOWN, x -> x.put(4, 0, 5));
        Twins.unchanged("null", NULL, x -> x.put(3, 0, 5));
        Twins.unchanged("index", INDEX, x -> x.put(1, 3, 5));
        Twins.unchanged("index below 0", INDEX, x -> x.put(1, -1, 5));
    }

    // ---- 27 cell

    @Sentence("Cell i of what a SHEET has, taken as a row of a LANE.")
    static void p27_firstAndLastCell() {
        for (int lane = 0; lane < 3; lane++) {
            ChairGrudge x = new ChairGrudge();
            x.sheet(3, lane, 60);
            x.put(3, 0, 5);
            x.put(3, 59, -6);
            Due.due("the first", x.cell(3, 0, lane), 5);
            Due.due("the last", x.cell(3, 59, lane), -6);
            lost("behind it", x, 3, x.cell(3, 60, lane));
            lost("ahead of the first", x, 3, x.cell(3, -1, lane));
        }
    }

    @Sentence("LOST: UNKNOWN, OUTSIDE: lane; FAULTS CAST (nothing is no CAST), NULL, INDEX.")
    static void p27_lost() {
        ChairGrudge x = new ChairGrudge();
        Edges.write(x, 0, 1, 7, 8, 9);
        for (int k : Edges.beyond(4)) {
            lost("sheet " + k, x, 0, x.cell(k, 0, 1));
        }
        for (int lane : Edges.beyond(3)) {
            lost("lane " + lane, x, 0, x.cell(0, 0, lane));
        }
        lost("as bytes", x, 2, x.cell(0, 0, 0));
        lost("as ints", x, 2, x.cell(0, 0, 2));
        for (int i : Edges.beyond(3)) {
            lost("cell " + i, x, 3, x.cell(0, i, 1));
        }
        Due.due("the first", x.cell(0, 0, 1), 7);
        Due.due("no fault", x.fault(), 0);
        Due.due("the last", x.cell(0, 2, 1), 9);
    }

    private static void lost(String what, ChairGrudge x, int fault, long got) {
        Due.due(what, got, LOST);
        Due.due(what + ", fault", x.fault(), fault);
    }

    @Sentence("FAULTS CAST (nothing is no CAST), NULL, INDEX.")
    static void p27_nothingIsNoCast() {
        ChairGrudge x = new ChairGrudge();
        for (int lane = 0; lane < 3; lane++) {
            lost("nothing", x, 1, x.cell(0, 0, lane));
            x.sheet(0, 1, 3);
            x.lose(0);
            lost("nothing again", x, 1, x.cell(0, 0, lane));
        }
        x.sheet(0, 1, 0);
        lost("a row of no numbers is not nothing", x, 3, x.cell(0, 0, 1));
        lost("a row of no numbers has a lane", x, 2, x.cell(0, 0, 0));
    }

    @Sentence("Of a call the first that is come to, in the order told")
    static void p27_theFirstInTheOrderTold() {
        ChairGrudge x = new ChairGrudge();
        lost("UNKNOWN ahead of NULL", x, 0, x.cell(4, -1, 0));
        lost("OUTSIDE ahead of NULL", x, 0, x.cell(0, -1, 3));
        lost("NULL ahead of INDEX", x, 1, x.cell(0, -1, 0));
        x.sheet(0, 1, 3);
        lost("OUTSIDE ahead of CAST", x, 0, x.cell(0, 0, 3));
        lost("OUTSIDE ahead of INDEX", x, 0, x.cell(0, 3, 3));
        lost("CAST ahead of INDEX", x, 2, x.cell(0, 3, 0));
    }

    @Sentence("it answers -10 less it (LOST, where a long is answered, as for refusals) and changes nothing")
    static void p27_refusedChangesNothing() {
        Twins.unchanged("sheet", LOST, x -> x.cell(4, 0, 0));
        Twins.unchanged("lane", LOST, x -> x.cell(0, 0, 3));
        Twins.unchanged("cast", LOST, x -> x.cell(0, 0, 1));
        Twins.unchanged("null", LOST, x -> x.cell(3, 0, 0));
        Twins.unchanged("index", LOST, x -> x.cell(1, 3, 1));
    }

    // ---- 28 copy

    @Sentence("n cells of a SHEET from i on go to another one (perhaps the same) from j on, as they were: n.")
    static void p28_noneToAllCells() {
        int[][] there = {{7, 8, 9}, {7, 8, 1}, {7, 1, 2}, {1, 2, 3}};
        for (int n = 0; n <= 3; n++) {
            ChairGrudge x = new ChairGrudge();
            Edges.write(x, 0, 2, 1, 2, 3);
            Edges.write(x, 1, 2, 7, 8, 9);
            Edges.faulty(n + " cells to the end", x, x.copy(0, 0, 1, 3 - n, n), n);
            Edges.holds("there", x, 1, 2, there[n]);
            Edges.holds("the first is as it was", x, 0, 2, 1, 2, 3);
        }
        ChairGrudge x = new ChairGrudge();
        x.sheet(2, 0, 60);
        x.sheet(3, 0, 60);
        x.put(2, 59, -5);
        Edges.faulty("all 60", x, x.copy(2, 0, 3, 0, 60), 60);
        Due.due("the last", x.cell(3, 59, 0), -5);
        Edges.faulty("61", x, x.copy(2, 0, 3, 0, 61), INDEX);
    }

    @Sentence("(perhaps the same) from j on, as they were")
    static void p28_inTheSameSheet() {
        for (int lane = 0; lane < 3; lane++) {
            ChairGrudge x = new ChairGrudge();
            Edges.write(x, 0, lane, 1, 2, 3, 4, 5);
            Edges.faulty("onward", x, x.copy(0, 0, 0, 1, 4), 4);
            Edges.holds("onward", x, 0, lane, 1, 1, 2, 3, 4);
            Edges.write(x, 0, lane, 1, 2, 3, 4, 5);
            Edges.faulty("backward", x, x.copy(0, 1, 0, 0, 4), 4);
            Edges.holds("backward", x, 0, lane, 2, 3, 4, 5, 5);
            Edges.faulty("to its own place", x, x.copy(0, 0, 0, 0, 5), 5);
            Edges.holds("to its own place", x, 0, lane, 2, 3, 4, 5, 5);
        }
    }

    @Sentence("INDEX: i, j, n below 0 or beyond.")
    static void p28_belowZeroOrBeyond() {
        int[][] beyond = {{-1, 0, 1}, {0, -1, 1}, {0, 0, -1}, {5, 0, 1}, {0, 4, 1}, {3, 0, 2}, {0, 2, 2}, {0, 0, 4},
            {0, 0, 5}, {1, 0, MAX}, {0, 1, MAX}, {4, 3, MAX}, {MAX, 0, 1}, {0, MAX, 1}, {MAX, MAX, MAX}, {MIN, 0, 1},
            {0, MIN, 1}, {0, 0, MIN}, {4, 3, MIN}, {4, 3, -1}, {MIN, MIN, MAX}, {-1, -1, -1}};
        for (int[] told : beyond) {
            ChairGrudge x = new ChairGrudge();
            Edges.write(x, 0, 1, 1, 2, 3, 4);
            Edges.write(x, 1, 1, 7, 8, 9);
            String what = told[2] + " from " + told[0] + " to " + told[1];
            Edges.faulty(what, x, x.copy(0, told[0], 1, told[1], told[2]), INDEX);
            Edges.holds(what, x, 1, 1, 7, 8, 9);
        }
    }

    @Sentence("(of cells from i on also where i is not 0 .. how many there are, if none of them is taken, too)")
    static void p28_indexOfNoCells() {
        ChairGrudge x = new ChairGrudge();
        x.sheet(0, 1, 4);
        x.sheet(1, 1, 3);
        Edges.faulty("none from the end to the end", x, x.copy(0, 4, 1, 3, 0), 0);
        Edges.faulty("none from the start to the start", x, x.copy(0, 0, 1, 0, 0), 0);
        for (int i : new int[] {-1, 5, 60, MIN, MAX}) {
            Edges.faulty("none from " + i, x, x.copy(0, i, 1, 0, 0), INDEX);
        }
        for (int j : new int[] {-1, 4, 60, MIN, MAX}) {
            Edges.faulty("none to " + j, x, x.copy(0, 0, 1, j, 0), INDEX);
        }
        x.sheet(2, 1, 0);
        Edges.faulty("none of none", x, x.copy(2, 0, 2, 0, 0), 0);
        Edges.faulty("one of none", x, x.copy(2, 0, 1, 0, 1), INDEX);
        Edges.faulty("one to none", x, x.copy(1, 0, 2, 0, 1), INDEX);
    }

    @Sentence("FAULTS NULL (the first, the other), CAST (unlike LANES)")
    static void p28_nullAndCast() {
        ChairGrudge x = new ChairGrudge();
        x.sheet(0, 0, 3);
        x.sheet(1, 1, 3);
        x.sheet(2, 2, 3);
        for (int k = 0; k < 4; k++) {
            for (int other = 0; other < 4; other++) {
                int due = k == 3 || other == 3 ? NULL : k == other ? 1 : CAST;
                Edges.faulty(k + " to " + other, x, x.copy(k, 0, other, 0, 1), due);
                Edges.faulty("none of " + k + " to " + other, x, x.copy(k, 0, other, 0, 0), due == 1 ? 0 : due);
            }
        }
        x.lose(1);
        Edges.faulty("nothing is no CAST", x, x.copy(0, 0, 1, 0, 1), NULL);
        Edges.faulty("nothing is no CAST", x, x.copy(1, 0, 0, 0, 1), NULL);
    }

    @Sentence("UNKNOWN; FAULTS NULL (the first, the other), CAST (unlike LANES), INDEX: i, j, n below 0 or beyond.")
    static void p28_theFirstInTheOrderTold() {
        ChairGrudge x = new ChairGrudge();
        for (int k : Edges.beyond(4)) {
            Edges.faulty("UNKNOWN, the first", x, x.copy(k, -1, 0, -1, -1), UNKNOWN);
            Edges.faulty("UNKNOWN, the other", x, x.copy(0, -1, k, -1, -1), UNKNOWN);
        }
        Edges.faulty("NULL ahead of INDEX", x, x.copy(0, -1, 1, -1, -1), NULL);
        x.sheet(0, 0, 1);
        Edges.faulty("NULL, the other, ahead of INDEX", x, x.copy(0, -1, 1, -1, -1), NULL);
        Edges.faulty("NULL, the first, ahead of INDEX", x, x.copy(1, -1, 0, -1, -1), NULL);
        x.sheet(1, 2, 1);
        Edges.faulty("CAST ahead of INDEX", x, x.copy(0, -1, 1, -1, -1), CAST);
    }

    @Sentence({"they change nothing (but fault(), of a call that names FAULTS)", "and changes nothing; fault() tells it"})
    static void p28_refusedChangesNothing() {
        Twins.unchanged("first", UNKNOWN, x -> x.copy(4, 0, 0, 0, 1));
        Twins.unchanged("other", UNKNOWN, x -> x.copy(0, 0, 4, 0, 1));
        Twins.unchanged("null, first", NULL, x -> x.copy(3, 0, 0, 0, 1));
        Twins.unchanged("null, other", NULL, x -> x.copy(0, 0, 3, 0, 1));
        Twins.unchanged("cast", CAST, x -> x.copy(0, 0, 1, 0, 1));
        Twins.unchanged("index", INDEX, x -> x.copy(0, 0, 0, 1, 14));
    }

    // ---- 29 tell

    @Sentence({"CHAIR (1): GRUDGE.", "BENCH (2): what CHAIR's gives, and 100.",
        "THRONE (3): what BENCH's gives, and what CHAIR's gives (BENCH's left out)."})
    static void p29_leastAndGreatestGrudge() {
        ChairGrudge x = Due.inHall("z1,c00,b00,t00");
        Due.due("chair", x.tell(0), 0);
        Due.due("bench", x.tell(1), 100);
        Due.due("throne", x.tell(2), 100);
        ChairGrudge y = Due.inHall("z1,c09,b09,t09");
        Due.due("chair", y.tell(0), 9);
        Due.due("bench", y.tell(1), 109);
        Due.due("throne", y.tell(2), 118);
    }

    @Sentence({"TELLING of CHAIRS by bodies that leave their number in TRACE", "(BENCH's left out)", "as they begin"})
    static void p29_bodiesInTheirOrder() {
        ChairGrudge x = Due.inHall("z1,t05");
        x.tell(0);
        Due.due("3, 2, 1, 1", x.trace(), ((3 * 31 + 2) * 31 + 1) * 31 + 1);
        ChairGrudge y = Due.inHall("z1,b05");
        y.tell(0);
        Due.due("2, 1", y.trace(), 2 * 31 + 1);
        ChairGrudge z = Due.inHall("z1,c05");
        z.tell(0);
        Due.due("1", z.trace(), 1);
    }

    @Sentence("TELLING of a CHAIR. UNKNOWN.")
    static void p29_noSuchChair() {
        ChairGrudge x = Due.inHall("z5,c05,t09");
        for (int c : Edges.beyond(2)) {
            Due.due("chair " + c, x.tell(c), UNKNOWN);
        }
        Due.due("no trace", x.trace(), 0);
        Due.due("the last chair", x.tell(1), 118);
        Due.due("without a hall", new ChairGrudge().tell(0), UNKNOWN);
    }

    @Sentence("they change nothing")
    static void p29_refusedChangesNothing() {
        Twins.unchanged("chair", UNKNOWN, x -> x.tell(3));
        Twins.unchangedWithoutHall("chair", UNKNOWN, x -> x.tell(0));
    }

    // ---- 30 creak

    @Sentence("CREAKS by a lent body (4): its number; THRONES have their own (5): 60.")
    static void p30_allChairs() {
        ChairGrudge x = Due.inHall("z1,c09,b09,c09,b09,c09");
        for (int c = 0; c < 5; c++) {
            Due.due("chair " + c, x.creak(c), c);
        }
        ChairGrudge y = Due.inHall("z1,t09,t00,t49,t11,t22");
        for (int c = 0; c < 5; c++) {
            Due.due("throne " + c, y.creak(c), 60);
        }
    }

    @Sentence({"bodies that leave their number in TRACE", "by a lent body (4)", "THRONES have their own (5)"})
    static void p30_bodies() {
        ChairGrudge x = Due.inHall("z1,c09,b09,t09");
        x.creak(0);
        Due.due("4", x.trace(), 4);
        x.creak(1);
        Due.due("4, 4", x.trace(), 4 * 31 + 4);
        x.creak(2);
        Due.due("4, 4, 5", x.trace(), (4 * 31 + 4) * 31 + 5);
    }

    @Sentence("How it CREAKS. UNKNOWN.")
    static void p30_noSuchChair() {
        ChairGrudge x = Due.inHall("z5,c05,t09");
        for (int c : Edges.beyond(2)) {
            Due.due("chair " + c, x.creak(c), UNKNOWN);
        }
        Due.due("no trace", x.trace(), 0);
        Due.due("without a hall", new ChairGrudge().creak(0), UNKNOWN);
    }

    @Sentence("they change nothing")
    static void p30_refusedChangesNothing() {
        Twins.unchanged("chair", UNKNOWN, x -> x.creak(3));
        Twins.unchangedWithoutHall("chair", UNKNOWN, x -> x.creak(0));
    }

    // ---- 31 as

    @Sentence("CAST: it is none (each is a CHAIR, too; a THRONE is a BENCH).")
    static void p31_eachAsEach() {
        ChairGrudge x = Due.inHall("z1,c00,b00,t00");
        int[][] due = {{1, CAST, CAST}, {1, 1, CAST}, {1, 1, 1}};
        for (int c = 0; c < 3; c++) {
            for (int kind = 0; kind < 3; kind++) {
                Edges.faulty(c + " as " + kind, x, x.as(c, kind), due[c][kind]);
            }
        }
    }

    @Sentence("A CHAIR, taken as one of a kind: 1. UNKNOWN; OUTSIDE; CAST: it is none")
    static void p31_refusals() {
        ChairGrudge x = Due.inHall("z5,c05,t09");
        for (int c : Edges.beyond(2)) {
            x.as(0, 1);
            Edges.faulty("chair " + c, x, x.as(c, 0), UNKNOWN);
            Edges.faulty("UNKNOWN ahead of OUTSIDE", x, x.as(c, 3), UNKNOWN);
        }
        for (int kind : Edges.beyond(3)) {
            x.as(0, 1);
            Edges.faulty("chair as " + kind, x, x.as(0, kind), OUTSIDE);
            Edges.faulty("throne as " + kind, x, x.as(1, kind), OUTSIDE);
        }
        ChairGrudge none = new ChairGrudge();
        Edges.faulty("without a hall", none, none.as(0, 0), UNKNOWN);
    }

    @Sentence({"they change nothing (but fault(), of a call that names FAULTS)", "and changes nothing; fault() tells it"})
    static void p31_refusedChangesNothing() {
        Twins.unchanged("chair", UNKNOWN, x -> x.as(3, 0));
        Twins.unchanged("kind", OUTSIDE, x -> x.as(0, 3));
        Twins.unchanged("cast", CAST, x -> x.as(0, 1));
        Twins.unchanged("a throne as a bench stays a throne", 1, x -> x.as(2, 1));
    }

    // ---- 32 trace

    @Sentence("(an int that wraps, 0 at first, becomes 31 times it and the number)")
    static void p32_itWraps() {
        ChairGrudge x = Due.inHall("z1,t09");
        Due.due("0 at first", x.trace(), 0);
        long exact = 0;
        for (int k = 0; k < 40; k++) {
            x.creak(0);
            exact = (31 * exact + 5) % (1L << 32);
            Due.due("after " + k, x.trace(), exact >= 1L << 31 ? exact - (1L << 32) : exact);
        }
    }

    @Sentence({"`int trace()`: TRACE.", "0 at first"})
    static void p32_onlyBodiesLeaveTheirNumber() {
        ChairGrudge x = Due.inHall("z1,c09,b09,t09");
        for (int c = 0; c < 3; c++) {
            x.as(c, c);
            x.ofChair(c, 2);
            x.bears(c, 0, 0);
            x.kinds(c);
            x.fresh(c, 0);
        }
        Due.due("still 0", x.trace(), 0);
    }

    /** A reading of the document: "all" is what the words behind it name, so TRACE and SHEETS stay. */
    @Sentence("A TEXT that is taken makes all anew: no SLIPS, no BUTTER, no READINGS.")
    static void p32_aNewTextLeavesIt() {
        ChairGrudge x = Due.inHall("z1,c09");
        x.creak(0);
        Due.due("a new text", x.hall(0, 0, 0, 6), 1);
        Due.due("4", x.trace(), 4);
        x.creak(0);
        Due.due("4, 4", x.trace(), 4 * 31 + 4);
        Due.due("the sheet has its row", x.cell(0, 0, 0), 122);
    }

    // ---- 33 fault

    @Sentence("(0 ahead of any)")
    static void p33_zeroAheadOfAny() {
        ChairGrudge x = new ChairGrudge();
        Due.due("at first", x.fault(), 0);
        x.lose(0);
        x.ofChair(0, 0);
        Due.due("ahead of any that names one", x.fault(), 0);
    }

    @Sentence("FAULTS are the machine's: 1 NULL (there is nothing), 2 CAST (it is of another lane, kind), 3 INDEX")
    static void p33_eachFault() {
        ChairGrudge x = Due.inHall("z1,c00");
        Due.due("NULL", x.put(1, 0, 0), -11);
        Due.due("1", x.fault(), 1);
        Due.due("CAST", x.as(0, 1), -12);
        Due.due("2", x.fault(), 2);
        Due.due("INDEX", x.put(0, 6, 0), -13);
        Due.due("3", x.fault(), 3);
        Due.due("SIZE", x.sheet(0, 0, -1), -14);
        Due.due("4", x.fault(), 4);
        Due.due("and again", x.fault(), 4);
    }

    @Sentence("The FAULT of the latest call that names one: 0: it came to none, or was refused")
    static void p33_zeroByGoodAndRefusedCalls() {
        for (int call = 0; call < 7; call++) {
            for (boolean refused : new boolean[] {false, true}) {
                ChairGrudge x = Due.inHall("z1,c00");
                x.as(0, 1);
                Due.due("ahead of it", x.fault(), 2);
                boolean was = naming(x, call, refused ? 4 : 0) == (call == 4 ? LOST : UNKNOWN);
                Due.due("call " + call + " is refused", was == refused);
                Due.due("call " + call, x.fault(), 0);
            }
        }
    }

    /** A call that names faults: good by a sheet or chair 0, refused by 4. */
    private static long naming(ChairGrudge x, int call, int k) {
        switch (call) {
            case 0: return x.hall(k, 0, 0, 6);
            case 1: return x.tipped(0, k, 0, 0, 0);
            case 2: return x.sheet(k, 0, 1);
            case 3: return x.put(k, 0, 5);
            case 4: return x.cell(k, 0, 0);
            case 5: return x.copy(k, 0, 0, 0, 1);
            default: return x.as(k, 0);
        }
    }

    @Sentence("0: it came to none, or was refused")
    static void p33_refusedBehindTheFaults() {
        ChairGrudge x = new ChairGrudge();
        x.sheet(0, 0, 6);
        x.put(0, 6, 0);
        Edges.faulty("STATE comes behind the faults", x, x.tipped(0, 0, 0, 0, 1), STATE);
        x.put(0, 6, 0);
        Edges.faulty("a FIRST FAULT is no FAULT", x, x.hall(0, 0, 0, 6), -100);
    }

    @Sentence("The FAULT of the latest call that names one")
    static void p33_otherCallsLeaveIt() {
        ChairGrudge x = Due.inHall("z1,c00");
        x.as(0, 1);
        x.lose(3);
        x.lose(4);
        x.tell(0);
        x.creak(0);
        x.trace();
        x.many(0);
        x.many(5);
        x.slip(0, 0, 0);
        x.slip(20, 0, 0);
        x.ofSlip(0, 0);
        x.ofSlip(9, 0);
        x.unsay(9);
        x.butter(0, 0, 0);
        x.melt(9);
        x.ofChair(9, 0);
        x.bears(0, 0, 0);
        x.whom(9, 0);
        x.seats(20, -1);
        x.few(20);
        x.least(20, -1);
        x.when(20);
        x.fresh(9, 0);
        x.reading(0, 0, 0, true);
        x.back(9);
        x.times(9);
        x.grudges(0);
        x.ears(9);
        x.kinds(0);
        x.odds(20, 0);
        x.odds(0, 0);
        Due.due("still", x.fault(), 2);
    }

    // ---- 34 many

    @Sentence("How many: 0 CHAIRS, 1 GUESTS, 2 SLIPS, 3 BUTTERS, 4 READINGS (0 all without a HALL).")
    static void p34_withoutAHallAndFull() {
        ChairGrudge none = new ChairGrudge();
        ChairGrudge x = Due.inHall("z4,c00,c00,c00,c00,c00");
        for (int k = 0; k < 9; k++) {
            none.slip(0, 0, 0);
            none.butter(0, 0, 0);
            none.reading(0, 0, 0, true);
            for (int what = 2; what < 5; what++) {
                Due.due("many " + what, x.many(what), Math.min(k, 8));
            }
            x.slip(0, 0, 0);
            x.butter(0, 0, 0);
            x.reading(0, 0, 0, true);
        }
        for (int what = 0; what < 5; what++) {
            Due.due("without a hall", none.many(what), 0);
        }
        Due.due("chairs", x.many(0), 5);
        Due.due("guests", x.many(1), 4);
    }

    @Sentence("(0 all without a HALL). OUTSIDE.")
    static void p34_outside() {
        ChairGrudge x = Due.inHall("z4,c00");
        for (int what : Edges.beyond(5)) {
            Due.due("what " + what, x.many(what), OUTSIDE);
            Due.due("without a hall", new ChairGrudge().many(what), OUTSIDE);
        }
    }

    @Sentence("they change nothing")
    static void p34_refusedChangesNothing() {
        Twins.unchanged("what", OUTSIDE, x -> x.many(5));
        Twins.unchangedWithoutHall("what", OUTSIDE, x -> x.many(-1));
    }
}

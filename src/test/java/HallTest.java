/** Promises 1 to 8: a new object, the hall, slips, butter. */
final class HallTest {
    private static final int MIN = Integer.MIN_VALUE, MAX = Integer.MAX_VALUE;

    private HallTest() {
    }

    public static void main(String[] args) {
        newObject();
        hallTaken();
        hallFirstFault();
        hallRefusals();
        hallMakesAllAnew();
        ofChair();
        slip();
        unsay();
        butter();
        melt();
        Due.end("HallTest");
    }

    private static void newObject() {
        ChairGrudge x = new ChairGrudge();
        for (int what = 0; what < 5; what++) {
            Due.due("1: many(" + what + ")", x.many(what), 0);
        }
        for (int k = 0; k < 4; k++) {
            Due.due("1: lose(" + k + ")", x.lose(k), 0);
            Due.due("1: cell", x.cell(k, 0, 0), ChairGrudge.LOST);
            Due.due("1: fault", x.fault(), 1);
        }
        ChairGrudge y = new ChairGrudge();
        Due.due("1: trace", y.trace(), 0);
        Due.due("1: fault", y.fault(), 0);
        Due.due("1: ofChair", y.ofChair(0, 0), -1);
        Due.due("1: LOST", ChairGrudge.LOST, Long.MIN_VALUE);
    }

    private static void hallTaken() {
        ChairGrudge x = new ChairGrudge();
        Due.due("2: least text", Due.tryHall(x, "z1,c00"), 1);
        Due.due("2: guests", x.many(1), 1);
        Due.due("2: greatest text", Due.tryHall(x, "z5,t49,b49,c49,t00,b11"), 5);
        Due.due("2: chairs", x.many(0), 5);
        Due.due("2: guests", x.many(1), 5);
        // a text in the midst of a row, of each lane
        for (int lane = 0; lane < 3; lane++) {
            String row = "??z2,b37,c08!";
            x.sheet(2, lane, row.length());
            for (int i = 0; i < row.length(); i++) {
                x.put(2, i, row.charAt(i));
            }
            Due.due("2: text in the midst", x.hall(2, lane, 2, 10), 2);
            Due.due("2: kind there", x.ofChair(0, 0), 1);
            Due.due("2: ear there", x.ofChair(0, 1), 3);
            Due.due("2: grudge there", x.ofChair(0, 2), 7);
            Due.due("2: grudge there", x.ofChair(1, 2), 8);
            Due.due("2: place is told from the text's start", x.hall(2, lane, 2, 11), -110);
            Due.due("2: fault of a wrong text", x.fault(), 0);
        }
    }

    private static void hallFirstFault() {
        ChairGrudge x = Due.inHall("z3,c12");
        firstFault(x, "", 0);
        firstFault(x, "c3,c12", 0);
        firstFault(x, "Z3,c12", 0);
        firstFault(x, "z", 1);
        firstFault(x, "z0,c12", 1);
        firstFault(x, "z6,c12", 1);
        firstFault(x, "zz,c12", 1);
        firstFault(x, "z3", 2);
        firstFault(x, "z3c12", 2);
        firstFault(x, "z3,", 3);
        firstFault(x, "z3,a12", 3);
        firstFault(x, "z3,z12", 3);
        firstFault(x, "z3,c", 4);
        firstFault(x, "z3,c52", 4);
        firstFault(x, "z3,c/2", 4);
        firstFault(x, "z3,c1", 5);
        firstFault(x, "z3,c1:", 5);
        firstFault(x, "z3,c1/", 5);
        firstFault(x, "z3,c12,", 7);
        firstFault(x, "z3,c12;", 6);
        firstFault(x, "z3,c12,b", 8);
        firstFault(x, "z3,c12,b4", 9);
        firstFault(x, "z3,c12,b59", 8);
        firstFault(x, "z1,c00,c00,c00,c00,c00,", 22);
        firstFault(x, "z1,c00,c00,c00,c00,c00,c00", 22);
        firstFault(x, "z1,c00,c00,c00,c00,c00c", 22);
        firstFault(x, "z1,c00,c00,c00,c00,c0", 21);
        firstFault(x, "z1,c00,c00,c00,c00,", 19);
        Due.due("2: the hall of before stands", x.many(1), 3);
        // a code that is cut to that of z only in bytes
        x.sheet(3, 1, 6);
        x.put(3, 0, 122 + 256);
        Due.due("2: no z", x.hall(3, 1, 0, 6), -100);
        x.put(3, 0, 122 + 65536);
        Due.due("2: a z by shorts", x.hall(3, 1, 0, 1), -101);
    }

    private static void firstFault(ChairGrudge x, String text, int place) {
        Due.due("2: hall by " + text, Due.tryHall(x, text), -100 - place);
        Due.due("2: fault after " + text, x.fault(), 0);
    }

    private static void hallRefusals() {
        ChairGrudge x = new ChairGrudge();
        Due.due("2: no sheet", x.hall(-1, 9, 0, 0), -1);
        Due.due("2: no sheet", x.hall(4, 0, 0, 0), -1);
        Due.due("2: lane", x.hall(0, 3, 0, 0), -2);
        Due.due("2: lane", x.hall(0, -1, 0, 0), -2);
        Due.due("2: nothing", x.hall(0, 2, -1, -1), -11);
        Due.due("2: fault", x.fault(), 1);
        Due.write(x, 0, "z1,c00");
        Due.due("2: cast ahead of size", x.hall(0, 1, 0, -1), -12);
        Due.due("2: fault", x.fault(), 2);
        Due.due("2: size ahead of index", x.hall(0, 0, -1, -1), -14);
        Due.due("2: fault", x.fault(), 4);
        Due.due("2: size", x.hall(0, 0, 0, MIN), -14);
        int[][] beyond = {{-1, 0}, {-1, 3}, {7, 0}, {6, 1}, {0, 7}, {1, 6}, {1, MAX}, {MAX, 1}, {MAX, MAX}, {MIN, MAX}};
        for (int[] run : beyond) {
            Due.due("2: index of " + run[0] + ", " + run[1], x.hall(0, 0, run[0], run[1]), -13);
            Due.due("2: fault", x.fault(), 3);
        }
        Due.due("2: lane", x.hall(0, 3, 0, 0), -2);
        Due.due("2: fault of a refusal", x.fault(), 0);
        Due.due("2: none of the cells, at their end", x.hall(0, 0, 6, 0), -100);
        Due.due("2: still no hall", x.many(0), 0);
    }

    private static void hallMakesAllAnew() {
        ChairGrudge x = Due.inHall("z2,c12,b34");
        x.slip(1, 0, 0);
        x.butter(1, 0, 0);
        x.reading(1, 0, 0, true);
        x.tell(1);
        int trace = x.trace();
        Due.due("2: a wrong text", Due.tryHall(x, "z2,"), -103);
        for (int what = 2; what < 5; what++) {
            Due.due("2: left by a wrong text", x.many(what), 1);
        }
        Due.due("2: a second hall", Due.tryHall(x, "z3,t00"), 1);
        Due.due("2: chairs", x.many(0), 1);
        Due.due("2: guests", x.many(1), 3);
        for (int what = 2; what < 5; what++) {
            Due.due("2: made anew", x.many(what), 0);
        }
        Due.due("2: chair of before", x.ofChair(1, 0), -1);
        Due.due("2: trace goes on", x.trace(), trace);
        Due.due("2: sheets stay", x.cell(0, 0, 0), 122);
    }

    private static void ofChair() {
        ChairGrudge x = Due.inHall("z2,c12,b34,t09");
        int[][] due = {{0, 1, 2}, {1, 3, 4}, {2, 0, 9}};
        for (int c = 0; c < 3; c++) {
            for (int what = 0; what < 3; what++) {
                Due.due("3: ofChair(" + c + ", " + what + ")", x.ofChair(c, what), due[c][what]);
            }
            Due.due("3: outside", x.ofChair(c, 3), -2);
            Due.due("3: outside", x.ofChair(c, -1), -2);
        }
        Due.due("3: unknown ahead of outside", x.ofChair(3, 3), -1);
        Due.due("3: unknown", x.ofChair(-1, 0), -1);
        Due.due("3: unknown", x.ofChair(MAX, 0), -1);
        Due.due("3: unknown", x.ofChair(MIN, 0), -1);
    }

    private static void slip() {
        ChairGrudge x = Due.inHall("z3,c12,b34");
        Due.due("4: guest", x.slip(0, 3, 0), -1);
        Due.due("4: guest", x.slip(0, -1, 0), -1);
        Due.due("4: chair", x.slip(0, 0, 2), -1);
        Due.due("4: chair", x.slip(0, 0, -1), -1);
        Due.due("4: unknown ahead of outside", x.slip(20, 3, 0), -1);
        Due.due("4: unknown ahead of outside", x.slip(20, 0, 2), -1);
        Due.due("4: dinner", x.slip(20, 0, 0), -2);
        Due.due("4: dinner", x.slip(-1, 0, 0), -2);
        Due.due("4: none was taken", x.many(2), 0);
        for (int k = 0; k < 8; k++) {
            Due.due("4: slip", x.slip(19 - k, k % 3, k % 2), k);
        }
        Due.due("4: full", x.slip(0, 0, 0), -4);
        Due.due("4: outside ahead of full", x.slip(20, 0, 0), -2);
        Due.due("4: unknown ahead of full", x.slip(0, 3, 0), -1);
        Due.due("4: many", x.many(2), 8);
        for (int k = 0; k < 8; k++) {
            Due.due("5: dinner", x.ofSlip(k, 0), 19 - k);
            Due.due("5: guest", x.ofSlip(k, 1), k % 3);
            Due.due("5: chair", x.ofSlip(k, 2), k % 2);
            Due.due("5: outside", x.ofSlip(k, 3), -2);
            Due.due("5: outside", x.ofSlip(k, -1), -2);
        }
        Due.due("5: unknown", x.ofSlip(8, 0), -1);
        Due.due("5: unknown ahead of outside", x.ofSlip(-1, 7), -1);
    }

    private static void unsay() {
        ChairGrudge x = Due.inHall("z3,c12,b34");
        x.slip(1, 0, 0);
        x.slip(2, 1, 1);
        x.slip(3, 2, 0);
        Due.due("6: minded are guests 1 and 2", x.whom(0, 4), 1);
        Due.due("6: none", x.unsay(0), 3);
        Due.due("6: below", x.unsay(-1), -2);
        Due.due("6: below", x.unsay(MIN), -2);
        Due.due("6: beyond", x.unsay(4), -2);
        Due.due("6: the last", x.unsay(1), 2);
        Due.due("6: it was none", x.ofSlip(2, 0), -1);
        Due.due("6: another stays", x.ofSlip(1, 0), 2);
        Due.due("6: it is minded no more", x.whom(0, 4), 5);
        Due.due("6: the place is free", x.slip(7, 2, 1), 2);
        Due.due("6: a new one is there", x.ofSlip(2, 0), 7);
        Due.due("6: all", x.unsay(3), 0);
        Due.due("6: many", x.many(2), 0);
    }

    private static void butter() {
        ChairGrudge x = Due.inHall("z3,c12,b34");
        Due.due("7: guest ahead of dinner", x.butter(-1, 3, 0), -1);
        Due.due("7: guest", x.butter(0, -1, 0), -1);
        Due.due("7: chair ahead of dinner", x.butter(20, 0, 2), -1);
        Due.due("7: dinner", x.butter(20, 0, 0), -2);
        Due.due("7: dinner", x.butter(-1, 0, 0), -2);
        for (int k = 0; k < 8; k++) {
            Due.due("7: butter", x.butter(k, 1, 1), k);
        }
        Due.due("7: full", x.butter(0, 0, 0), -4);
        Due.due("7: outside ahead of full", x.butter(20, 0, 0), -2);
        Due.due("7: many", x.many(3), 8);
        Due.due("7: no slips by it", x.many(2), 0);
    }

    private static void melt() {
        ChairGrudge x = Due.inHall("z1,c05");
        x.slip(1, 0, 0);
        x.butter(1, 0, 0);
        x.butter(2, 0, 0);
        Due.due("8: forgiven", x.bears(0, 0, 2), 1);
        Due.due("8: none", x.melt(0), 2);
        Due.due("8: below", x.melt(-1), -2);
        Due.due("8: beyond", x.melt(3), -2);
        Due.due("8: all", x.melt(2), 0);
        Due.due("8: minded again", x.bears(0, 0, 2), 0);
        Due.due("8: many", x.many(3), 0);
        Due.due("8: beyond", x.melt(1), -2);
    }
}

/** Promises 24 to 34: sheets, telling, creaking, kinds, trace, fault, many. */
final class SheetTest {
    private static final long LOST = ChairGrudge.LOST;
    private static final int MIN = Integer.MIN_VALUE, MAX = Integer.MAX_VALUE;

    private SheetTest() {
    }

    public static void main(String[] args) {
        sheet();
        lose();
        putAndCell();
        putRefusals();
        cellRefusals();
        copy();
        copyRefusals();
        tell();
        creak();
        traceWraps();
        as();
        fault();
        many();
        Due.end("SheetTest");
    }

    private static void sheet() {
        ChairGrudge x = new ChairGrudge();
        Due.due("24: no sheet ahead of lane", x.sheet(4, 3, -1), -1);
        Due.due("24: no sheet", x.sheet(-1, 0, 0), -1);
        Due.due("24: lane ahead of size", x.sheet(0, 3, -1), -2);
        Due.due("24: lane", x.sheet(0, -1, 0), -2);
        Due.due("24: above 60", x.sheet(0, 0, 61), -2);
        Due.due("24: above 60", x.sheet(0, 0, MAX), -2);
        Due.due("24: still nothing", x.lose(0), 0);
        Due.due("24: size", x.sheet(0, 0, -1), -14);
        Due.due("24: fault", x.fault(), 4);
        Due.due("24: size", x.sheet(0, 0, MIN), -14);
        Due.due("24: still nothing", x.lose(0), 0);
        for (int k = 0; k < 4; k++) {
            Due.due("24: a row of none", x.sheet(k, k % 3, 0), 1);
            Due.due("24: no cell", x.put(k, 0, 1), -13);
            Due.due("24: a row of 60", x.sheet(k, k % 3, 60), 1);
            Due.due("24: the last cell", x.put(k, 59, k + 1), 1);
            Due.due("24: no cell", x.put(k, 60, 1), -13);
        }
        for (int k = 0; k < 4; k++) {
            Due.due("24: each has its own", x.cell(k, 59, k % 3), k + 1);
            Due.due("24: refused, it stays", x.sheet(k, 0, -1), -14);
            Due.due("24: refused, it stays", x.cell(k, 59, k % 3), k + 1);
            Due.due("24: shorter", x.sheet(k, 2, 3), 1);
            Due.due("24: longer again", x.sheet(k, 1, 60), 1);
            Due.due("24: 0 at first", x.cell(k, 59, 1), 0);
        }
    }

    private static void lose() {
        ChairGrudge x = new ChairGrudge();
        Due.due("25: had nothing", x.lose(3), 0);
        x.sheet(3, 0, 0);
        Due.due("25: a row of none is a row", x.lose(3), 1);
        Due.due("25: it is gone", x.lose(3), 0);
        Due.due("25: nothing to put to", x.put(3, 0, 0), -11);
        Due.due("25: no sheet", x.lose(4), -1);
        Due.due("25: no sheet", x.lose(-1), -1);
        Due.due("25: it names no faults", x.fault(), 1);
    }

    private static void putAndCell() {
        ChairGrudge x = new ChairGrudge();
        int[] told = {0, 1, -1, 127, 128, -128, -129, 255, 256, 32767, 32768, -32768, -32769, 65535, 65536, MAX, MIN};
        for (int lane = 0; lane < 3; lane++) {
            x.sheet(1, lane, told.length);
            for (int i = 0; i < told.length; i++) {
                Due.due("26: put", x.put(1, i, told[i]), 1);
            }
            for (int i = 0; i < told.length; i++) {
                long cut = lane == 0 ? (byte) told[i] : lane == 1 ? (short) told[i] : told[i];
                Due.due("27: cell of lane " + lane + " by " + told[i], x.cell(1, i, lane), cut);
                Due.due("27: no fault", x.fault(), 0);
            }
        }
    }

    private static void putRefusals() {
        ChairGrudge x = new ChairGrudge();
        Due.due("26: no sheet", x.put(4, 0, 0), -1);
        Due.due("26: no sheet", x.put(-1, 0, 0), -1);
        Due.due("26: null ahead of index", x.put(0, -1, 0), -11);
        Due.due("26: fault", x.fault(), 1);
        x.sheet(0, 0, 3);
        for (int i : new int[] {-1, 3, MIN, MAX}) {
            Due.due("26: index " + i, x.put(0, i, 5), -13);
            Due.due("26: fault", x.fault(), 3);
        }
        Due.due("26: refused", x.put(4, 0, 0), -1);
        Due.due("26: fault of a refusal", x.fault(), 0);
        for (int i = 0; i < 3; i++) {
            Due.due("26: nothing came", x.cell(0, i, 0), 0);
        }
    }

    private static void cellRefusals() {
        ChairGrudge x = new ChairGrudge();
        lost("27: null", x, 0, -1, 2, 1);
        lost("27: no sheet", x, 4, 0, 0, 0);
        lost("27: no sheet", x, -1, 0, 0, 0);
        lost("27: lane", x, 0, 0, 3, 0);
        lost("27: lane", x, 0, 0, -1, 0);
        x.sheet(0, 1, 3);
        lost("27: cast ahead of index", x, 0, 3, 0, 2);
        lost("27: cast", x, 0, 0, 2, 2);
        lost("27: index", x, 0, 3, 1, 3);
        lost("27: index", x, 0, -1, 1, 3);
        lost("27: index", x, 0, MAX, 1, 3);
        lost("27: index", x, 0, MIN, 1, 3);
        Due.due("27: a cell", x.cell(0, 2, 1), 0);
        Due.due("27: fault", x.fault(), 0);
    }

    private static void lost(String what, ChairGrudge x, int k, int i, int lane, int fault) {
        Due.due(what, x.cell(k, i, lane), LOST);
        Due.due(what + ", fault", x.fault(), fault);
    }

    private static void copy() {
        ChairGrudge x = new ChairGrudge();
        x.sheet(0, 1, 5);
        x.sheet(1, 1, 3);
        for (int i = 0; i < 5; i++) {
            x.put(0, i, 1000 + i);
        }
        Due.due("28: to another", x.copy(0, 1, 1, 0, 3), 3);
        row("28: there", x, 1, 1001, 1002, 1003);
        row("28: the first stays", x, 0, 1000, 1001, 1002, 1003, 1004);
        Due.due("28: onward in itself", x.copy(0, 0, 0, 1, 4), 4);
        row("28: as they were", x, 0, 1000, 1000, 1001, 1002, 1003);
        Due.due("28: backward in itself", x.copy(0, 1, 0, 0, 4), 4);
        row("28: as they were", x, 0, 1000, 1001, 1002, 1003, 1003);
        Due.due("28: none, at the ends", x.copy(0, 5, 1, 3, 0), 0);
        Due.due("28: fault", x.fault(), 0);
        x.sheet(1, 1, 0);
        Due.due("28: none of none", x.copy(1, 0, 1, 0, 0), 0);
    }

    private static void row(String what, ChairGrudge x, int k, int... cells) {
        for (int i = 0; i < cells.length; i++) {
            Due.due(what + ", cell " + i, x.cell(k, i, 1), cells[i]);
        }
    }

    private static void copyRefusals() {
        ChairGrudge x = new ChairGrudge();
        Due.due("28: no sheet", x.copy(4, 0, 0, 0, 0), -1);
        Due.due("28: no other", x.copy(0, 0, 4, 0, 0), -1);
        Due.due("28: no other", x.copy(0, 0, -1, 0, 0), -1);
        Due.due("28: no sheet", x.copy(-1, 0, 0, 0, 0), -1);
        Due.due("28: both nothing", x.copy(0, 0, 1, 0, -1), -11);
        x.sheet(0, 0, 4);
        Due.due("28: the other has nothing", x.copy(0, 0, 1, 0, -1), -11);
        Due.due("28: the first has nothing", x.copy(1, 0, 0, 0, -1), -11);
        Due.due("28: fault", x.fault(), 1);
        x.sheet(1, 2, 3);
        Due.due("28: cast ahead of index", x.copy(0, 9, 1, 9, -1), -12);
        Due.due("28: cast of none", x.copy(0, 0, 1, 0, 0), -12);
        Due.due("28: fault", x.fault(), 2);
        x.sheet(1, 0, 3);
        x.put(0, 0, 9);
        int[][] beyond = {{-1, 0, 1}, {0, -1, 1}, {0, 0, -1}, {0, 0, 4}, {2, 0, 3}, {5, 0, 0}, {0, 4, 0}, {0, 3, 1},
            {-1, 0, 0}, {0, -1, 0}, {1, 0, MAX}, {0, 1, MAX}, {MAX, 0, 1}, {0, MAX, 1}, {0, 0, MIN}, {MAX, MAX, MAX}};
        for (int[] run : beyond) {
            String what = "28: index of " + run[0] + ", " + run[1] + ", " + run[2];
            Due.due(what, x.copy(0, run[0], 1, run[1], run[2]), -13);
            Due.due(what + ", fault", x.fault(), 3);
        }
        for (int i = 0; i < 3; i++) {
            Due.due("28: nothing came", x.cell(1, i, 0), 0);
        }
        Due.due("28: refused", x.copy(4, 0, 0, 0, 0), -1);
        Due.due("28: fault of a refusal", x.fault(), 0);
    }

    private static void tell() {
        ChairGrudge x = Due.inHall("z1,c07,b08,t09");
        Due.due("29: chair", x.tell(0), 7);
        Due.due("32: by 1", x.trace(), 1);
        Due.due("29: bench", x.tell(1), 108);
        Due.due("32: by 1, 2, 1", x.trace(), (1 * 31 + 2) * 31 + 1);
        int before = x.trace();
        Due.due("29: throne", x.tell(2), 118);
        Due.due("32: by 3, 2, 1, 1", x.trace(), (((before * 31 + 3) * 31 + 2) * 31 + 1) * 31 + 1);
        before = x.trace();
        Due.due("29: no chair", x.tell(3), -1);
        Due.due("29: no chair", x.tell(-1), -1);
        Due.due("32: a refusal leaves no trace", x.trace(), before);
    }

    private static void creak() {
        ChairGrudge x = Due.inHall("z1,c07,b08,t09,b01,t00");
        int trace = 0;
        int[] due = {0, 1, 60, 3, 60};
        int[] body = {4, 4, 5, 4, 5};
        for (int c = 0; c < 5; c++) {
            Due.due("30: chair " + c, x.creak(c), due[c]);
            trace = trace * 31 + body[c];
            Due.due("32: by body " + body[c], x.trace(), trace);
        }
        Due.due("30: no chair", x.creak(5), -1);
        Due.due("30: no chair", x.creak(-1), -1);
        Due.due("32: a refusal leaves no trace", x.trace(), trace);
    }

    private static void traceWraps() {
        ChairGrudge x = Due.inHall("z1,c07,t09");
        int trace = 0;
        for (int k = 0; k < 20; k++) {
            x.creak(1);
            trace = trace * 31 + 5;
            Due.due("32: it wraps", x.trace(), trace);
        }
    }

    private static void as() {
        ChairGrudge x = Due.inHall("z1,c00,b00,t00");
        for (int c = 0; c < 3; c++) {
            for (int kind = 0; kind < 3; kind++) {
                boolean is = kind <= c;
                Due.due("31: " + c + " as " + kind, x.as(c, kind), is ? 1 : -12);
                Due.due("31: fault", x.fault(), is ? 0 : 2);
            }
            Due.due("31: no kind", x.as(c, 3), -2);
            Due.due("31: no kind", x.as(c, -1), -2);
        }
        x.as(0, 2);
        Due.due("31: chair ahead of kind", x.as(3, 3), -1);
        Due.due("31: fault of a refusal", x.fault(), 0);
        Due.due("31: no chair", x.as(-1, 0), -1);
        Due.due("31: it stays what it is", x.ofChair(0, 0), 0);
        Due.due("31: no trace", x.trace(), 0);
    }

    /** Every call that names faults lays the one of before; no other call does. */
    private static void fault() {
        ChairGrudge x = Due.inHall("z1,c00,b00");
        Due.due("33: none", x.fault(), 0);
        for (int call = 0; call < 7; call++) {
            x.as(0, 1);
            Due.due("33: as", x.fault(), 2);
            refusedCall(x, call);
            Due.due("33: laid by refused call " + call, x.fault(), 0);
            x.as(0, 1);
            goodCall(x, call);
            Due.due("33: laid by good call " + call, x.fault(), 0);
        }
        x.as(0, 1);
        callsWithoutFaults(x);
        Due.due("33: kept by other calls", x.fault(), 2);
        Due.due("33: and by itself", x.fault(), 2);
    }

    private static void refusedCall(ChairGrudge x, int call) {
        switch (call) {
            case 0: x.hall(4, 0, 0, 0); break;
            case 1: x.tipped(0, 4, 0, 0, 0); break;
            case 2: x.sheet(4, 0, 0); break;
            case 3: x.put(4, 0, 0); break;
            case 4: x.cell(4, 0, 0); break;
            case 5: x.copy(4, 0, 0, 0, 0); break;
            default: x.as(2, 0); break;
        }
    }

    private static void goodCall(ChairGrudge x, int call) {
        switch (call) {
            case 0: x.hall(0, 0, 0, 10); break;
            case 1: x.tipped(0, 0, 0, 0, 0); break;
            case 2: x.sheet(1, 0, 1); break;
            case 3: x.put(0, 0, 'z'); break;
            case 4: x.cell(0, 0, 0); break;
            case 5: x.copy(0, 0, 0, 0, 0); break;
            default: x.as(1, 1); break;
        }
    }

    private static void callsWithoutFaults(ChairGrudge x) {
        x.ofChair(0, 0);
        x.slip(0, 0, 0);
        x.ofSlip(0, 0);
        x.unsay(0);
        x.butter(0, 0, 0);
        x.melt(0);
        x.bears(0, 0, 0);
        x.whom(0, 0);
        x.seats(0, -1);
        x.few(0);
        x.least(0, -1);
        x.when(0);
        x.fresh(0, 0);
        x.reading(0, 0, 0, true);
        x.back(0);
        x.times(0);
        x.grudges(0);
        x.ears(0);
        x.kinds(0);
        x.odds(0, 0);
        x.lose(3);
        x.tell(0);
        x.creak(0);
        x.trace();
        x.many(0);
    }

    private static void many() {
        ChairGrudge x = Due.inHall("z4,c00,b00,c00");
        x.slip(0, 0, 0);
        x.butter(0, 0, 0);
        x.butter(0, 0, 0);
        for (int k = 0; k < 5; k++) {
            x.reading(0, 0, 0, true);
        }
        int[] due = {3, 4, 1, 2, 5};
        for (int what = 0; what < 5; what++) {
            Due.due("34: many(" + what + ")", x.many(what), due[what]);
        }
        Due.due("34: outside", x.many(5), -2);
        Due.due("34: outside", x.many(-1), -2);
        Due.due("34: outside", new ChairGrudge().many(MAX), -2);
    }
}

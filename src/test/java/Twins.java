import java.util.ArrayList;
import java.util.List;
import java.util.function.ToLongFunction;

/** Two objects with the same calls behind them: what a call changed shows by the other, which was not called. */
final class Twins {
    private static final String TEXT = "z3,c12,b34,t09";

    private Twins() {
    }

    /** A call that is refused, or comes to a fault, in a hall with eight of each note: its answer, and nothing changes. */
    static void unchanged(String what, long want, ToLongFunction<ChairGrudge> call) {
        compare(what, want, call, full(), full());
    }

    /** The same with fewer notes, so that a call that should be refused has room to go wrong. */
    static void unchangedWithRoom(String what, long want, ToLongFunction<ChairGrudge> call) {
        compare(what + ", with room", want, call, withRoom(), withRoom());
    }

    /** The same without a hall. */
    static void unchangedWithoutHall(String what, long want, ToLongFunction<ChairGrudge> call) {
        compare(what + ", without a hall", want, call, withSheets(), withSheets());
    }

    private static void compare(String what, long want, ToLongFunction<ChairGrudge> call, ChairGrudge x,
            ChairGrudge twin) {
        Due.due(what, call.applyAsLong(x), want);
        List<String> got = picture(x);
        List<String> due = picture(twin);
        Due.due(what + ": as much to tell", got.size(), due.size());
        for (int k = 0; k < Math.min(got.size(), due.size()); k++) {
            Due.due(what + " changed " + due.get(k) + " to " + got.get(k), got.get(k).equals(due.get(k)));
        }
    }

    /** Sheets 0 (bytes), 1 (shorts), 2 (ints) have rows, sheet 3 has nothing. */
    private static ChairGrudge withSheets() {
        ChairGrudge x = new ChairGrudge();
        Due.write(x, 0, TEXT);
        Edges.write(x, 1, 1, 300, -9, 1);
        Edges.write(x, 2, 2, 70000, 0);
        return x;
    }

    private static ChairGrudge withRoom() {
        ChairGrudge x = withSheets();
        Due.due("hall of twins", x.hall(0, 0, 0, TEXT.length()), 3);
        for (int k = 0; k < 3; k++) {
            note(x, k);
        }
        x.tell(2);
        return x;
    }

    private static ChairGrudge full() {
        ChairGrudge x = withRoom();
        for (int k = 3; k < 8; k++) {
            note(x, k);
        }
        return x;
    }

    private static void note(ChairGrudge x, int k) {
        Due.due("slip of twins", x.slip(k, k % 3, (k + 1) % 3), k);
        Due.due("butter of twins", x.butter(k + 1, k % 2, (k + 2) % 3), k);
        int dinner = k + 9;
        Due.due("reading of twins", x.reading(dinner, 0, k % 3, x.bears(0, k % 3, dinner) == 1), k);
    }

    /** All that can be told of an object but its fault, which calls may change though they are refused. */
    private static List<String> picture(ChairGrudge x) {
        List<String> all = new ArrayList<>();
        all.add("trace " + x.trace());
        for (int what = 0; what < 5; what++) {
            all.add("many " + what + " " + x.many(what));
        }
        for (int k = 0; k < 8; k++) {
            all.add("slip " + k + " " + x.ofSlip(k, 0) + " " + x.ofSlip(k, 1) + " " + x.ofSlip(k, 2));
            all.add("times " + k + " " + x.times(k));
        }
        for (int c = 0; c < 4; c++) {
            all.add("chair " + c + " " + x.ofChair(c, 0) + " " + x.ofChair(c, 1) + " " + x.ofChair(c, 2));
            all.add("by readings " + c + " " + x.grudges(c) + " " + x.ears(c) + " " + x.kinds(c));
            for (int dinner = 0; dinner < 20; dinner++) {
                all.add("whom " + c + " " + dinner + " " + x.whom(c, dinner));
            }
        }
        for (int k = 0; k < 4; k++) {
            addCells(all, x, k, k % 3);
        }
        return all;
    }

    private static void addCells(List<String> all, ChairGrudge x, int sheet, int lane) {
        for (int i = 0; i < 16; i++) {
            all.add("sheet " + sheet + " cell " + i + " " + x.cell(sheet, i, lane) + " " + x.fault());
        }
    }
}

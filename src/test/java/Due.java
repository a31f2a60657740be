/** Counts answers that are not the ones due; every test of the project reports through it. */
final class Due {
    private static int asked = 0;
    private static int wrong = 0;
    private static String place = "";

    private Due() {
    }

    /** What each complaint begins with from now on. */
    static void within(String test) {
        place = test;
    }

    static void due(String call, long got, long want) {
        asked++;
        if (got != want) {
            wrong++;
            System.out.println(place + call + " answered " + got + ", due is " + want);
        }
    }

    static void due(String call, boolean holds) {
        due(call, holds ? 1 : 0, 1);
    }

    /** Writes a text to a sheet of bytes, cell by cell. */
    static void write(ChairGrudge x, int sheet, String text) {
        due("sheet for " + text, x.sheet(sheet, 0, text.length()), 1);
        for (int i = 0; i < text.length(); i++) {
            due("put of " + text, x.put(sheet, i, text.charAt(i)), 1);
        }
    }

    /** What hall answers to a text. */
    static int tryHall(ChairGrudge x, String text) {
        write(x, 0, text);
        return x.hall(0, 0, 0, text.length());
    }

    /** A new object with a hall by a text that is due to be taken. */
    static ChairGrudge inHall(String text) {
        ChairGrudge x = new ChairGrudge();
        due("hall by " + text, tryHall(x, text), (text.length() - 2) / 4);
        return x;
    }

    /** Writes a seating to sheet 1, as ints. */
    static void writeSeating(ChairGrudge x, int... chairs) {
        due("sheet for a seating", x.sheet(1, 2, chairs.length), 1);
        for (int g = 0; g < chairs.length; g++) {
            due("put of a seating", x.put(1, g, chairs[g]), 1);
        }
    }

    static void end(String test) {
        System.out.println(test + ": " + asked + " answers, " + wrong + " not as due");
        if (asked == 0 || wrong != 0) {
            System.exit(1);
        }
    }
}

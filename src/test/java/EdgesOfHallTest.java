/** Promises 1 to 8: the boundary cases of a new object, the hall, slips and butter. */
final class EdgesOfHallTest {
    private static final int MIN = Edges.MIN, MAX = Edges.MAX;
    private static final int UNKNOWN = Edges.UNKNOWN, OUTSIDE = Edges.OUTSIDE, STATE = Edges.STATE, FULL = Edges.FULL;
    private static final int NULL = Edges.NULL, CAST = Edges.CAST, INDEX = Edges.INDEX, SIZE = Edges.SIZE;
    private static final String FIVE = "z5,c00,b49,t37,b12,c28";

    private EdgesOfHallTest() {
    }

    public static void main(String[] args) throws Exception {
        Edges.run(EdgesOfHallTest.class, 1, 8);
    }

    // ---- 1 a new object

    @Sentence("No HALL (no GUESTS, CHAIRS)")
    static void p01_noGuestsNoChairs() {
        ChairGrudge x = new ChairGrudge();
        Due.due("chairs", x.many(0), 0);
        Due.due("guests", x.many(1), 0);
        Due.due("chair 0", x.ofChair(0, 0), UNKNOWN);
        Due.due("guest 0", x.seats(0, 0), UNKNOWN);
        Due.due("no hall", x.seats(0, -1), STATE);
        Due.due("a slip", x.slip(0, 0, 0), UNKNOWN);
    }

    @Sentence("SHEETS have nothing.")
    static void p01_sheetsHaveNothing() {
        for (int k = 0; k < 4; k++) {
            ChairGrudge x = new ChairGrudge();
            Edges.faulty("put to " + k, x, x.put(k, 0, 0), NULL);
            Due.due("lose " + k, x.lose(k), 0);
        }
    }

    @Sentence("No HALL (no GUESTS, CHAIRS), SHEETS have nothing.")
    static void p01_nothingOfAnotherObject() {
        ChairGrudge before = Due.inHall("z2,c12");
        before.slip(3, 1, 0);
        before.tell(0);
        before.as(0, 1);
        ChairGrudge x = new ChairGrudge();
        for (int what = 0; what < 5; what++) {
            Due.due("many " + what, x.many(what), 0);
        }
        Due.due("trace", x.trace(), 0);
        Due.due("fault", x.fault(), 0);
        Due.due("sheet 0", x.lose(0), 0);
        Due.due("the other stays", before.many(2), 1);
        Due.due("the other's trace", before.trace(), 1);
        Due.due("the other's fault", before.fault(), 2);
    }

    @Sentence("An object is used for at most 512 calls after it has been made")
    static void p01_the512thCallAnswers() {
        ChairGrudge x = Due.inHall("z1,t09");
        int trace = 0;
        for (int call = 9; call < 512; call++) {
            Due.due("call " + call, x.creak(0), 60);
            trace = 31 * trace + 5;
        }
        Due.due("call 512", x.trace(), trace);
    }

    @Sentence({"UNKNOWN = -1, OUTSIDE = -2, STATE = -3, FULL = -4, NONE = -9", "LOST = Long.MIN_VALUE", "NONE is -9."})
    static void p01_constants() {
        Due.due("UNKNOWN", ChairGrudge.UNKNOWN, -1);
        Due.due("OUTSIDE", ChairGrudge.OUTSIDE, -2);
        Due.due("STATE", ChairGrudge.STATE, -3);
        Due.due("FULL", ChairGrudge.FULL, -4);
        Due.due("NONE", ChairGrudge.NONE, -9);
        Due.due("LOST", ChairGrudge.LOST, Long.MIN_VALUE);
    }

    // ---- 2 hall

    private static void taken(String text, int chairs) {
        Due.due("hall by " + text, Due.tryHall(new ChairGrudge(), text), chairs);
    }

    private static void wrong(String text, int place) {
        ChairGrudge x = new ChairGrudge();
        Edges.faulty("hall by " + text, x, Due.tryHall(x, text), -100 - place);
        Due.due("no hall by " + text, x.many(0) + x.many(1), 0);
    }

    @Sentence("A HALL by a TEXT: z, a digit 1 .. 5 (GUESTS, numbered from 0 on)")
    static void p02_oneToFiveGuests() {
        for (int guests = 1; guests <= 5; guests++) {
            ChairGrudge x = Due.inHall("z" + guests + ",c00");
            Due.due("guests", x.many(1), guests);
            Due.due("guest 0", x.bears(0, 0, 0), 1);
            Due.due("the last guest", x.bears(0, guests - 1, 0), 1);
            Due.due("none behind", x.bears(0, guests, 0), UNKNOWN);
        }
        for (String digit : new String[] {"0", "6", "7", "8", "9", "/", ":"}) {
            wrong("z" + digit + ",c00", 1);
        }
    }

    @Sentence("then 1 to 5 CHAIRS, in a row, numbered from 0 on")
    static void p02_oneToFiveChairs() {
        String text = "z1";
        wrong(text, 2);
        for (int chairs = 1; chairs <= 5; chairs++) {
            text = text + ",c0" + chairs;
            ChairGrudge x = Due.inHall(text);
            Due.due("chairs", x.many(0), chairs);
            Due.due("chair 0", x.ofChair(0, 2), 1);
            Due.due("the last chair", x.ofChair(chairs - 1, 2), chairs);
            Due.due("none behind", x.ofChair(chairs, 2), UNKNOWN);
        }
    }

    @Sentence("(the , of a sixth CHAIR)")
    static void p02_theCommaOfASixthChair() {
        taken(FIVE, 5);
        wrong(FIVE + ",", 22);
        wrong(FIVE + ",c", 22);
        wrong(FIVE + ",c00", 22);
        wrong(FIVE + ",c00,c00", 22);
        wrong(FIVE + "c", 22);
        wrong(FIVE + "0", 22);
    }

    @Sentence("each: , and a letter,")
    static void p02_aCommaAndALetter() {
        for (String letter : new String[] {"c", "b", "t"}) {
            taken("z1," + letter + "00", 1);
            wrong("z1" + letter + "00", 2);
            wrong("z1,c00" + letter + "00", 6);
        }
        for (String letter : new String[] {"a", "d", "s", "u", "z", "C", "B", "T", "0", ","}) {
            wrong("z1," + letter + "00", 3);
            wrong("z1,c00," + letter + "00", 7);
        }
        wrong("z1;c00", 2);
        wrong("z1+c00", 2);
        wrong("z1-c00", 2);
        wrong("z1,,c00", 3);
        wrong("z,c00", 1);
    }

    @Sentence("a digit 0 .. 4 (EAR)")
    static void p02_earZeroToFour() {
        for (int ear = 0; ear <= 9; ear++) {
            if (ear <= 4) {
                Due.due("ear", Due.inHall("z1,c" + ear + "7").ofChair(0, 1), ear);
            } else {
                wrong("z1,c" + ear + "7", 4);
            }
        }
        wrong("z1,c/7", 4);
    }

    @Sentence("a digit 0 .. 9 (GRUDGE)")
    static void p02_grudgeZeroToNine() {
        for (int grudge = 0; grudge <= 9; grudge++) {
            Due.due("grudge", Due.inHall("z1,c3" + grudge).ofChair(0, 2), grudge);
        }
        wrong("z1,c3/", 5);
        wrong("z1,c3:", 5);
    }

    @Sentence("FIRST FAULT: the place (from 0 on) of the first code with which no TEXT goes on")
    static void p02_theFirstCodeWithWhichNoTextGoesOn() {
        String[] goOn = {"z", "12345", ",", "cbt", "01234", "0123456789", ",", "cbt", "01234", "0123456789"};
        String text = "z3,c12,b34";
        for (int place = 0; place < text.length(); place++) {
            for (int code = -128; code < 128; code += 64) {
                codesAt(place, code, goOn[place], text);
            }
        }
        wrong("y0", 0);
        wrong("z0.", 1);
        wrong("z1,x5:", 3);
        wrong("z1,c5:", 4);
    }

    private static void codesAt(int place, int first, String goOn, String text) {
        ChairGrudge x = new ChairGrudge();
        Due.write(x, 0, text);
        for (int code = first; code < first + 64; code++) {
            x.put(0, place, code);
            boolean goesOn = code >= 0 && goOn.indexOf(code) >= 0;
            Due.due("code " + code + " at " + place, x.hall(0, 0, 0, text.length()), goesOn ? 2 : -100 - place);
        }
    }

    @Sentence("how many codes there are, if it just ends too soon")
    static void p02_howManyCodesIfItEndsTooSoon() {
        ChairGrudge x = new ChairGrudge();
        Due.write(x, 0, FIVE);
        for (int n = 0; n <= 22; n++) {
            boolean whole = n >= 6 && n % 4 == 2;
            Due.due("the first " + n + " codes", x.hall(0, 0, 0, n), whole ? n / 4 : -100 - n);
        }
    }

    @Sentence("(Codes: z 122, c 99, b 98, t 116, comma 44, digits 48 .. 57.)")
    static void p02_codes() {
        ChairGrudge x = new ChairGrudge();
        Edges.write(x, 0, 0, 122, 49, 44, 99, 48, 48, 44, 98, 52, 57, 44, 116, 49, 50);
        Due.due("chairs", x.hall(0, 0, 0, 14), 3);
        for (int c = 0; c < 3; c++) {
            Due.due("kind", x.ofChair(c, 0), c);
        }
        Due.due("digit 48", x.ofChair(0, 1), 0);
        Due.due("digit 57", x.ofChair(1, 2), 9);
    }

    @Sentence("what comes to a cell of it is cut to its LANE")
    static void p02_codesAreTakenAsTheyWereCut() {
        for (int lane = 0; lane < 3; lane++) {
            ChairGrudge x = new ChairGrudge();
            Edges.write(x, 0, lane, 122 + 256, 49, 44, 99, 48, 48);
            Due.due("z and 256, lane " + lane, x.hall(0, lane, 0, 6), lane == 0 ? 1 : -100);
            x.put(0, 0, 122 + 65536);
            Due.due("z and 65536, lane " + lane, x.hall(0, lane, 0, 6), lane < 2 ? 1 : -100);
        }
    }

    @Sentence("A TEXT that is taken makes all anew: no SLIPS, no BUTTER, no READINGS.")
    static void p02_aTextMakesAllAnew() {
        ChairGrudge x = Due.inHall("z2,c09");
        x.slip(0, 0, 0);
        x.slip(0, 0, 0);
        x.butter(1, 0, 0);
        x.reading(1, 0, 0, true);
        Due.due("minded", x.bears(0, 0, 1), 0);
        Due.due("by the reading", x.grudges(0), 1);
        Due.due("the same text again", x.hall(0, 0, 0, 6), 1);
        for (int what = 2; what <= 4; what++) {
            Due.due("many " + what, x.many(what), 0);
        }
        Due.due("no slip 0", x.ofSlip(0, 0), UNKNOWN);
        Due.due("nothing to mind", x.bears(0, 0, 1), 1);
        Due.due("nothing read", x.grudges(0), 1023);
        Due.due("numbered anew", x.slip(1, 0, 0), 0);
        Due.due("numbered anew", x.reading(1, 0, 0, true), 0);
        Due.due("no butter is left", x.bears(0, 0, 2), 0);
        Due.due("numbered anew", x.butter(1, 0, 0), 0);
    }

    @Sentence("A TEXT that is taken makes all anew")
    static void p02_aSmallerHall() {
        ChairGrudge x = Due.inHall(FIVE);
        Due.due("taken", Due.tryHall(x, "z1,t21"), 1);
        Due.due("chairs", x.many(0), 1);
        Due.due("guests", x.many(1), 1);
        Due.due("no chair 1", x.ofChair(1, 0), UNKNOWN);
        Due.due("no guest 1", x.bears(0, 1, 0), UNKNOWN);
        Due.due("kind", x.ofChair(0, 0), 2);
    }

    @Sentence("-100 less the FIRST FAULT.")
    static void p02_aTextThatIsNotTakenChangesNothing() {
        Twins.unchanged("it ends too soon", -113, x -> x.hall(0, 0, 0, 13));
        Twins.unchanged("no cells", -100, x -> x.hall(0, 0, 14, 0));
        Twins.unchanged("no text", -100, x -> x.hall(1, 1, 0, 3));
        Twins.unchangedWithoutHall("it ends too soon", -111, x -> x.hall(0, 0, 0, 11));
    }

    @Sentence("A HALL by a TEXT of n cells of a SHEET from i on, taken as a row of a LANE: how many CHAIRS")
    static void p02_cellsFromTheMidst() {
        for (int lane = 0; lane < 3; lane++) {
            ChairGrudge x = new ChairGrudge();
            x.sheet(3, lane, 60);
            for (int k = 0; k < FIVE.length(); k++) {
                x.put(3, 38 + k, FIVE.charAt(k));
            }
            Due.due("the last 22 of 60 cells", x.hall(3, lane, 38, 22), 5);
            Due.due("guests", x.many(1), 5);
            Due.due("grudge of the last", x.ofChair(4, 2), 8);
            Due.due("places are told from cell i on", x.hall(3, lane, 38, 21), -121);
            Due.due("places are told from cell i on", x.hall(3, lane, 37, 23), -100);
            Due.due("all 60", x.hall(3, lane, 0, 60), -100);
        }
    }

    @Sentence("UNKNOWN (there is no such CHAIR, GUEST, SLIP, SHEET, place of a row)")
    static void p02_noSuchSheet() {
        for (int k : Edges.beyond(4)) {
            ChairGrudge x = Due.inHall("z1,c00");
            x.as(0, 1);
            Edges.faulty("sheet " + k, x, x.hall(k, 0, 0, 6), UNKNOWN);
        }
    }

    @Sentence("UNKNOWN; OUTSIDE: lane; FAULTS CAST (nothing is no CAST), NULL")
    static void p02_noSuchLane() {
        for (int lane : Edges.beyond(3)) {
            ChairGrudge x = Due.inHall("z1,c00");
            x.as(0, 1);
            Edges.faulty("lane " + lane, x, x.hall(0, lane, 0, 6), OUTSIDE);
        }
    }

    @Sentence("2 CAST (it is of another lane, kind)")
    static void p02_castOfAnotherLane() {
        for (int lane = 0; lane < 3; lane++) {
            for (int as = 0; as < 3; as++) {
                ChairGrudge x = new ChairGrudge();
                Edges.write(x, 2, lane, 122, 49, 44, 99, 48, 48);
                Edges.faulty(lane + " as " + as, x, x.hall(2, as, 0, 6), lane == as ? 1 : CAST);
            }
        }
    }

    @Sentence("FAULTS CAST (nothing is no CAST), NULL, SIZE: n is below 0")
    static void p02_nothingIsNoCast() {
        for (int lane = 0; lane < 3; lane++) {
            ChairGrudge x = new ChairGrudge();
            Edges.faulty("nothing as " + lane, x, x.hall(0, lane, 0, 0), NULL);
            x.sheet(0, 1, 6);
            x.lose(0);
            Edges.faulty("nothing again as " + lane, x, x.hall(0, lane, 0, 0), NULL);
        }
    }

    @Sentence("SIZE: n is below 0")
    static void p02_sizeBelowZero() {
        ChairGrudge x = Due.inHall("z1,c00");
        Edges.faulty("-1", x, x.hall(0, 0, 0, -1), SIZE);
        Edges.faulty("-1 from the end", x, x.hall(0, 0, 6, -1), SIZE);
        Edges.faulty("-6 from the end", x, x.hall(0, 0, 6, -6), SIZE);
        Edges.faulty("the least", x, x.hall(0, 0, 0, MIN), SIZE);
        Edges.faulty("0", x, x.hall(0, 0, 0, 0), -100);
    }

    @Sentence("INDEX: not all cells are there")
    static void p02_indexNotAllCells() {
        int[][] gone = {{0, 7}, {1, 6}, {5, 2}, {6, 1}, {-1, 1}, {-1, 7}, {0, 60}, {0, MAX}, {1, MAX}, {6, MAX},
            {MAX, 1}, {MAX, MAX}, {MIN, 1}, {MIN, MAX}, {-6, 6}};
        for (int[] cells : gone) {
            ChairGrudge x = Due.inHall("z1,c00");
            Edges.faulty(cells[1] + " from " + cells[0], x, x.hall(0, 0, cells[0], cells[1]), INDEX);
        }
    }

    @Sentence("(of cells from i on also where i is not 0 .. how many there are, if none of them is taken, too)")
    static void p02_indexOfNoCells() {
        ChairGrudge x = Due.inHall("z1,c00");
        Edges.faulty("none from 0", x, x.hall(0, 0, 0, 0), -100);
        Edges.faulty("none from the end", x, x.hall(0, 0, 6, 0), -100);
        for (int i : new int[] {-1, 7, 60, MIN, MAX}) {
            Edges.faulty("none from " + i, x, x.hall(0, 0, i, 0), INDEX);
        }
        x.sheet(1, 2, 0);
        Edges.faulty("none of none", x, x.hall(1, 2, 0, 0), -100);
        Edges.faulty("none of none from 1", x, x.hall(1, 2, 1, 0), INDEX);
        Edges.faulty("none of none from -1", x, x.hall(1, 2, -1, 0), INDEX);
    }

    @Sentence({"Of a call the first that is come to, in the order told",
        "INDEX: not all cells are there; -100 less it."})
    static void p02_theFirstInTheOrderTold() {
        ChairGrudge x = new ChairGrudge();
        Edges.faulty("UNKNOWN ahead of OUTSIDE", x, x.hall(4, 3, -1, -1), UNKNOWN);
        Edges.faulty("OUTSIDE ahead of NULL", x, x.hall(0, 3, -1, -1), OUTSIDE);
        Edges.faulty("NULL ahead of SIZE", x, x.hall(0, 0, -1, -1), NULL);
        Edges.faulty("NULL ahead of INDEX", x, x.hall(0, 0, 0, 1), NULL);
        x.sheet(0, 1, 3);
        Edges.faulty("OUTSIDE ahead of CAST", x, x.hall(0, 3, 0, 0), OUTSIDE);
        Edges.faulty("CAST ahead of SIZE", x, x.hall(0, 0, 0, -1), CAST);
        Edges.faulty("CAST ahead of INDEX", x, x.hall(0, 0, 0, 4), CAST);
        Edges.faulty("SIZE ahead of INDEX", x, x.hall(0, 1, 4, -1), SIZE);
        Edges.faulty("INDEX ahead of the text", x, x.hall(0, 1, 0, 4), INDEX);
        Edges.faulty("the text last of all", x, x.hall(0, 1, 0, 3), -100);
    }

    @Sentence({"they change nothing (but fault(), of a call that names FAULTS)",
        "it answers -10 less it (LOST, where a long is answered, as for refusals) and changes nothing"})
    static void p02_refusedChangesNothing() {
        Twins.unchanged("sheet", UNKNOWN, x -> x.hall(4, 0, 0, 14));
        Twins.unchanged("lane", OUTSIDE, x -> x.hall(0, 3, 0, 14));
        Twins.unchanged("cast", CAST, x -> x.hall(0, 1, 0, 14));
        Twins.unchanged("null", NULL, x -> x.hall(3, 0, 0, 14));
        Twins.unchanged("size", SIZE, x -> x.hall(0, 0, 0, -1));
        Twins.unchanged("index", INDEX, x -> x.hall(0, 0, 0, 15));
    }

    // ---- 3 ofChair

    @Sentence("Kinds: 0 CHAIR (c); 1 BENCH (b), a CHAIR; 2 THRONE (t), a BENCH.")
    static void p03_kinds() {
        ChairGrudge x = Due.inHall("z1,t40,b31,c22,t13,b04");
        int[] kind = {2, 1, 0, 2, 1};
        for (int c = 0; c < 5; c++) {
            Due.due("kind of " + c, x.ofChair(c, 0), kind[c]);
            Due.due("ear of " + c, x.ofChair(c, 1), 4 - c);
            Due.due("grudge of " + c, x.ofChair(c, 2), c);
        }
    }

    @Sentence("A THRONE BEARS as a CHAIR, but with a GRUDGE twice as long.")
    static void p03_aThronesGrudgeIsToldAsInTheText() {
        Due.due("grudge", Due.inHall("z1,t09").ofChair(0, 2), 9);
    }

    @Sentence("Of a CHAIR: 0 kind, 1 EAR, 2 GRUDGE. UNKNOWN; OUTSIDE.")
    static void p03_refusals() {
        ChairGrudge x = Due.inHall("z3,c12,b34");
        for (int c : Edges.beyond(2)) {
            Due.due("chair " + c, x.ofChair(c, 0), UNKNOWN);
            Due.due("UNKNOWN ahead of OUTSIDE", x.ofChair(c, 3), UNKNOWN);
        }
        for (int what : Edges.beyond(3)) {
            Due.due("what " + what, x.ofChair(1, what), OUTSIDE);
        }
        Due.due("without a hall", new ChairGrudge().ofChair(0, 3), UNKNOWN);
    }

    @Sentence("they change nothing")
    static void p03_refusedChangesNothing() {
        Twins.unchanged("chair", UNKNOWN, x -> x.ofChair(3, 0));
        Twins.unchanged("what", OUTSIDE, x -> x.ofChair(0, 3));
    }

    // ---- 4 slip

    @Sentence({"SLIPS, 8 at most, numbered by how many there are", "FULL; they change nothing"})
    static void p04_eightAtMost() {
        ChairGrudge x = Due.inHall("z1,c00");
        for (int k = 0; k < 8; k++) {
            Due.due("slip", x.slip(k, 0, 0), k);
        }
        Due.due("a ninth", x.slip(9, 0, 0), FULL);
        Due.due("and again", x.slip(9, 0, 0), FULL);
        Due.due("eight", x.many(2), 8);
        Due.due("the eighth stays", x.ofSlip(7, 0), 7);
        x.unsay(1);
        Due.due("room for one", x.slip(9, 0, 0), 7);
        Due.due("full again", x.slip(9, 0, 0), FULL);
    }

    @Sentence("SLIPS, 8 at most, numbered by how many there are")
    static void p04_numberedByHowManyThereAre() {
        ChairGrudge x = Due.inHall("z1,c00");
        x.slip(0, 0, 0);
        x.slip(0, 0, 0);
        Due.due("a refused one counts for nothing", x.slip(20, 0, 0), OUTSIDE);
        Due.due("the third", x.slip(0, 0, 0), 2);
        x.unsay(2);
        Due.due("behind the one that is left", x.slip(0, 0, 0), 1);
    }

    @Sentence("DINNERS are 0 .. 19.")
    static void p04_dinners() {
        ChairGrudge x = Due.inHall("z1,c00");
        Due.due("the first", x.slip(0, 0, 0), 0);
        Due.due("the last", x.slip(19, 0, 0), 1);
        Due.due("it is told", x.ofSlip(1, 0), 19);
        for (int dinner : Edges.beyond(20)) {
            Due.due("dinner " + dinner, x.slip(dinner, 0, 0), OUTSIDE);
        }
    }

    @Sentence("A SLIP: its number. UNKNOWN: GUEST, CHAIR; OUTSIDE: dinner; FULL.")
    static void p04_noSuchGuestOrChair() {
        ChairGrudge x = Due.inHall("z3,c00,c00");
        Due.due("the last guest on the last chair", x.slip(0, 2, 1), 0);
        for (int g : Edges.beyond(3)) {
            Due.due("guest " + g, x.slip(0, g, 0), UNKNOWN);
        }
        for (int c : Edges.beyond(2)) {
            Due.due("chair " + c, x.slip(0, 0, c), UNKNOWN);
        }
    }

    @Sentence("REFUSALS, in the order in which a call's line tells them")
    static void p04_theFirstInTheOrderTold() {
        ChairGrudge x = Due.inHall("z1,c00");
        for (int k = 0; k < 8; k++) {
            x.slip(0, 0, 0);
        }
        Due.due("guest ahead of dinner, FULL", x.slip(20, 1, 0), UNKNOWN);
        Due.due("chair ahead of dinner, FULL", x.slip(20, 0, 1), UNKNOWN);
        Due.due("guest ahead of FULL", x.slip(0, 1, 0), UNKNOWN);
        Due.due("chair ahead of FULL", x.slip(0, 0, 1), UNKNOWN);
        Due.due("dinner ahead of FULL", x.slip(20, 0, 0), OUTSIDE);
    }

    @Sentence("they change nothing")
    static void p04_refusedChangesNothing() {
        Twins.unchanged("full", FULL, x -> x.slip(0, 0, 0));
        Twins.unchangedWithRoom("guest", UNKNOWN, x -> x.slip(0, 3, 0));
        Twins.unchangedWithRoom("chair", UNKNOWN, x -> x.slip(0, 0, 3));
        Twins.unchangedWithRoom("dinner", OUTSIDE, x -> x.slip(20, 0, 0));
        Twins.unchangedWithoutHall("guest", UNKNOWN, x -> x.slip(0, 0, 0));
    }

    @Sentence("It is HEARD by all CHAIRS that are no further from that one than their EAR (by numbers; by itself, too)")
    static void p04_heardAsFarAsTheEar() {
        for (int ear = 0; ear <= 4; ear++) {
            for (int on = 0; on < 5; on++) {
                String chair = ",c" + ear + "9";
                ChairGrudge x = Due.inHall("z1" + chair + chair + chair + chair + chair);
                x.slip(0, 0, on);
                for (int c = 0; c < 5; c++) {
                    int far = c > on ? c - on : on - c;
                    Due.due("ear " + ear + ", " + c + " of " + on, x.bears(c, 0, 1), far <= ear ? 0 : 1);
                }
            }
        }
    }

    @Sentence("no further from that one than their EAR")
    static void p04_theHearersEarCounts() {
        ChairGrudge x = Due.inHall("z1,c09,c49");
        x.slip(0, 0, 0);
        Due.due("a slip on one without ears is heard", x.bears(1, 0, 1), 0);
        x.unsay(1);
        x.slip(0, 0, 1);
        Due.due("one without ears does not hear", x.bears(0, 0, 1), 1);
    }

    @Sentence("(by numbers; by itself, too)")
    static void p04_heardByItself() {
        ChairGrudge x = Due.inHall("z1,c09,b09,t09");
        for (int c = 0; c < 3; c++) {
            x.slip(0, 0, c);
            for (int other = 0; other < 3; other++) {
                Due.due(other + " of " + c, x.bears(other, 0, 1), other == c ? 0 : 1);
            }
            x.unsay(1);
        }
    }

    @Sentence("in a DINNER a GUEST was unkind on a CHAIR.")
    static void p04_thatDinnerThatGuestThatChair() {
        ChairGrudge x = Due.inHall("z3,c01,c01,c01");
        x.slip(4, 2, 1);
        for (int dinner = 0; dinner < 20; dinner++) {
            for (int c = 0; c < 3; c++) {
                for (int g = 0; g < 3; g++) {
                    boolean minded = dinner == 5 && c == 1 && g == 2;
                    Due.due("dinner " + dinner + ", " + c + ", " + g, x.bears(c, g, dinner), minded ? 0 : 1);
                }
            }
        }
    }

    // ---- 5 ofSlip

    @Sentence("Of a SLIP: 0 DINNER, 1 GUEST, 2 CHAIR. UNKNOWN; OUTSIDE.")
    static void p05_allEightAndNoMore() {
        ChairGrudge x = Due.inHall("z5,c00,c00,c00,c00");
        for (int k = 0; k < 8; k++) {
            Due.due("not yet", x.ofSlip(k, 0), UNKNOWN);
            x.slip(19 - 2 * k, k % 5, k % 4);
        }
        for (int k = 0; k < 8; k++) {
            Due.due("dinner", x.ofSlip(k, 0), 19 - 2 * k);
            Due.due("guest", x.ofSlip(k, 1), k % 5);
            Due.due("chair", x.ofSlip(k, 2), k % 4);
        }
        for (int k : Edges.beyond(8)) {
            Due.due("slip " + k, x.ofSlip(k, 0), UNKNOWN);
            Due.due("UNKNOWN ahead of OUTSIDE", x.ofSlip(k, 3), UNKNOWN);
        }
        for (int what : Edges.beyond(3)) {
            Due.due("what " + what, x.ofSlip(7, what), OUTSIDE);
        }
    }

    @Sentence("they change nothing")
    static void p05_refusedChangesNothing() {
        Twins.unchanged("slip", UNKNOWN, x -> x.ofSlip(8, 0));
        Twins.unchanged("what", OUTSIDE, x -> x.ofSlip(0, 3));
    }

    // ---- 6 unsay

    @Sentence("The last k SLIPS (0 .. as many as there are) were none: how many are left.")
    static void p06_zeroToAsManyAsThereAre() {
        for (int k = 0; k <= 8; k++) {
            ChairGrudge x = Due.inHall("z1,c00");
            for (int s = 0; s < 8; s++) {
                x.slip(s, 0, 0);
            }
            Due.due("unsay " + k, x.unsay(k), 8 - k);
            Due.due("left", x.many(2), 8 - k);
            for (int s = 0; s < 8; s++) {
                Due.due("slip " + s, x.ofSlip(s, 0), s < 8 - k ? s : UNKNOWN);
            }
        }
    }

    @Sentence("(0 .. as many as there are) were none: how many are left. OUTSIDE.")
    static void p06_outside() {
        ChairGrudge x = Due.inHall("z1,c00");
        Due.due("none of none", x.unsay(0), 0);
        Due.due("one of none", x.unsay(1), OUTSIDE);
        for (int s = 0; s < 3; s++) {
            x.slip(s, 0, 0);
        }
        for (int k : new int[] {-1, 4, 8, MIN, MAX}) {
            Due.due("unsay " + k, x.unsay(k), OUTSIDE);
        }
        Due.due("left", x.many(2), 3);
        Due.due("all", x.unsay(3), 0);
        Due.due("one of none", x.unsay(1), OUTSIDE);
        Due.due("without a hall", new ChairGrudge().unsay(0), 0);
        Due.due("without a hall", new ChairGrudge().unsay(1), OUTSIDE);
    }

    @Sentence("they change nothing")
    static void p06_refusedChangesNothing() {
        Twins.unchanged("beyond", OUTSIDE, x -> x.unsay(9));
        Twins.unchanged("below", OUTSIDE, x -> x.unsay(-1));
        Twins.unchanged("none is no change", 8, x -> x.unsay(0));
    }

    // ---- 7 butter

    @Sentence("BUTTER, 8 at most, numbered likewise")
    static void p07_eightAtMost() {
        ChairGrudge x = Due.inHall("z1,c09");
        for (int k = 0; k < 8; k++) {
            Due.due("butter", x.butter(k, 0, 0), k);
        }
        Due.due("a ninth", x.butter(9, 0, 0), FULL);
        Due.due("eight", x.many(3), 8);
        x.slip(8, 0, 0);
        Due.due("the ninth forgives nothing", x.bears(0, 0, 10), 0);
        x.melt(1);
        Due.due("room for one", x.butter(9, 0, 0), 7);
        Due.due("it forgives", x.bears(0, 0, 10), 1);
        Due.due("full again", x.butter(9, 0, 0), FULL);
    }

    @Sentence("BUTTER, 8 at most, numbered likewise")
    static void p07_slipsTakeNoRoomOfIt() {
        ChairGrudge x = Due.inHall("z1,c00");
        for (int k = 0; k < 8; k++) {
            x.slip(0, 0, 0);
        }
        Due.due("the first", x.butter(0, 0, 0), 0);
        Due.due("a refused one counts for nothing", x.butter(20, 0, 0), OUTSIDE);
        Due.due("the second", x.butter(0, 0, 0), 1);
    }

    @Sentence({"DINNERS are 0 .. 19.", "BUTTER: its number. UNKNOWN: GUEST, CHAIR; OUTSIDE: dinner; FULL."})
    static void p07_refusals() {
        ChairGrudge x = Due.inHall("z3,c00,c00");
        Due.due("the first dinner", x.butter(0, 0, 0), 0);
        Due.due("the last dinner, guest, chair", x.butter(19, 2, 1), 1);
        for (int dinner : Edges.beyond(20)) {
            Due.due("dinner " + dinner, x.butter(dinner, 0, 0), OUTSIDE);
        }
        for (int g : Edges.beyond(3)) {
            Due.due("guest " + g, x.butter(0, g, 0), UNKNOWN);
        }
        for (int c : Edges.beyond(2)) {
            Due.due("chair " + c, x.butter(0, 0, c), UNKNOWN);
        }
    }

    @Sentence("REFUSALS, in the order in which a call's line tells them")
    static void p07_theFirstInTheOrderTold() {
        ChairGrudge x = Due.inHall("z1,c00");
        for (int k = 0; k < 8; k++) {
            x.butter(0, 0, 0);
        }
        Due.due("guest ahead of dinner, FULL", x.butter(20, 1, 0), UNKNOWN);
        Due.due("chair ahead of dinner, FULL", x.butter(20, 0, 1), UNKNOWN);
        Due.due("guest ahead of FULL", x.butter(0, 1, 0), UNKNOWN);
        Due.due("chair ahead of FULL", x.butter(0, 0, 1), UNKNOWN);
        Due.due("dinner ahead of FULL", x.butter(20, 0, 0), OUTSIDE);
    }

    @Sentence("they change nothing")
    static void p07_refusedChangesNothing() {
        Twins.unchanged("full", FULL, x -> x.butter(0, 0, 0));
        Twins.unchangedWithRoom("guest", UNKNOWN, x -> x.butter(0, 3, 0));
        Twins.unchangedWithRoom("chair", UNKNOWN, x -> x.butter(0, 0, 3));
        Twins.unchangedWithRoom("dinner", OUTSIDE, x -> x.butter(20, 0, 0));
        Twins.unchangedWithoutHall("guest", UNKNOWN, x -> x.butter(0, 0, 0));
    }

    @Sentence("all his SLIPS up to that DINNER (in it, too)")
    static void p07_slipsUpToThatDinnerAndInIt() {
        for (int slip = 3; slip <= 7; slip++) {
            ChairGrudge x = Due.inHall("z1,c09");
            x.slip(slip, 0, 0);
            x.butter(5, 0, 0);
            Due.due("slip in " + slip, x.bears(0, 0, 8), slip <= 5 ? 1 : 0);
        }
    }

    @Sentence("are FORGIVEN by that CHAIR in later DINNERS")
    static void p07_inLaterDinners() {
        ChairGrudge x = Due.inHall("z1,c09");
        x.slip(3, 0, 0);
        x.butter(5, 0, 0);
        for (int dinner = 0; dinner < 20; dinner++) {
            Due.due("dinner " + dinner, x.bears(0, 0, dinner), dinner == 4 || dinner == 5 ? 0 : 1);
        }
    }

    @Sentence("all his SLIPS")
    static void p07_allOfThemButNoOthers() {
        ChairGrudge x = Due.inHall("z2,c49,c49");
        x.slip(0, 0, 0);
        x.slip(1, 0, 1);
        x.slip(2, 0, 0);
        x.slip(1, 1, 0);
        x.butter(2, 0, 0);
        Due.due("all of his, by that chair", x.bears(0, 0, 3), 1);
        Due.due("none of another guest's", x.bears(0, 1, 3), 0);
        Due.due("none by another chair", x.bears(1, 0, 3), 0);
    }

    @Sentence("in a DINNER a GUEST gives it to a CHAIR")
    static void p07_givenAheadOfTheSlip() {
        ChairGrudge x = Due.inHall("z1,c09");
        x.butter(4, 0, 0);
        x.slip(4, 0, 0);
        Due.due("told ahead of the slip of its dinner", x.bears(0, 0, 5), 1);
        x.slip(5, 0, 0);
        Due.due("not for a later slip", x.bears(0, 0, 6), 0);
    }

    // ---- 8 melt

    @Sentence("The last k BUTTERS (0 .. as many as there are) are taken back: how many are left.")
    static void p08_zeroToAsManyAsThereAre() {
        for (int k = 0; k <= 8; k++) {
            ChairGrudge x = Due.inHall("z5,c09,c09");
            for (int b = 0; b < 8; b++) {
                x.slip(0, b / 2, b % 2);
                x.butter(0, b / 2, b % 2);
            }
            Due.due("melt " + k, x.melt(k), 8 - k);
            Due.due("left", x.many(3), 8 - k);
            for (int b = 0; b < 8; b++) {
                Due.due("butter " + b, x.bears(b % 2, b / 2, 1), b < 8 - k ? 1 : 0);
            }
        }
    }

    @Sentence("(0 .. as many as there are) are taken back: how many are left. OUTSIDE.")
    static void p08_outside() {
        ChairGrudge x = Due.inHall("z1,c00");
        Due.due("none of none", x.melt(0), 0);
        Due.due("one of none", x.melt(1), OUTSIDE);
        x.slip(0, 0, 0);
        Due.due("a slip is no butter", x.melt(1), OUTSIDE);
        for (int b = 0; b < 3; b++) {
            x.butter(b, 0, 0);
        }
        for (int k : new int[] {-1, 4, 8, MIN, MAX}) {
            Due.due("melt " + k, x.melt(k), OUTSIDE);
        }
        Due.due("left", x.many(3), 3);
        Due.due("all", x.melt(3), 0);
        Due.due("without a hall", new ChairGrudge().melt(0), 0);
        Due.due("without a hall", new ChairGrudge().melt(1), OUTSIDE);
    }

    @Sentence("they change nothing")
    static void p08_refusedChangesNothing() {
        Twins.unchanged("beyond", OUTSIDE, x -> x.melt(9));
        Twins.unchanged("below", OUTSIDE, x -> x.melt(-1));
        Twins.unchanged("none is no change", 8, x -> x.melt(0));
    }
}

/** Promises 9 to 16: the boundary cases of whom chairs bear, who sits, butter and dinners. */
final class EdgesOfSeatsTest {
    private static final int MIN = Edges.MIN, MAX = Edges.MAX;
    private static final int UNKNOWN = Edges.UNKNOWN, OUTSIDE = Edges.OUTSIDE, STATE = Edges.STATE, NONE = Edges.NONE;
    private static final int NULL = Edges.NULL, CAST = Edges.CAST, INDEX = Edges.INDEX, SIZE = Edges.SIZE;

    private EdgesOfSeatsTest() {
    }

    public static void main(String[] args) throws Exception {
        Edges.run(EdgesOfSeatsTest.class, 9, 16);
    }

    /** A hall of chairs without ears in whose dinner 1 each chair c minds the guests of minded[c]. */
    private static ChairGrudge minding(int guests, int... minded) {
        StringBuilder text = new StringBuilder("z").append(guests);
        for (int c = 0; c < minded.length; c++) {
            text.append(",c01");
        }
        ChairGrudge x = Due.inHall(text.toString());
        for (int c = 0; c < minded.length; c++) {
            for (int g = 0; g < guests; g++) {
                if ((minded[c] >> g & 1) != 0) {
                    Due.due("there is room for the slip", x.slip(0, g, c) >= 0);
                }
            }
        }
        return x;
    }

    private static void seated(ChairGrudge x, int dinner, int sitting, int... chairs) {
        Due.due("how many sit", x.seats(dinner, -1), sitting);
        for (int g = 0; g < chairs.length; g++) {
            Due.due("seat of " + g, x.seats(dinner, g), chairs[g]);
        }
    }

    private static void buttered(ChairGrudge x, int dinner, int butters, int... chairs) {
        Due.due("how many butters", x.least(dinner, -1), butters);
        for (int g = 0; g < chairs.length; g++) {
            Due.due("chair of " + g, x.least(dinner, g), chairs[g]);
        }
    }

    // ---- 9 bears

    @Sentence("A CHAIR MINDS a GUEST in a DINNER, if it HEARD a SLIP of his of 1 to GRUDGE DINNERS ahead"
        + " that it has not FORGIVEN. It BEARS those whom it does not MIND.")
    static void p09_oneToGrudgeDinnersAhead() {
        for (int grudge = 0; grudge <= 9; grudge++) {
            ChairGrudge x = Due.inHall("z1,c0" + grudge);
            x.slip(5, 0, 0);
            for (int dinner = 0; dinner < 20; dinner++) {
                boolean minded = dinner > 5 && dinner <= 5 + grudge;
                Due.due("grudge " + grudge + ", dinner " + dinner, x.bears(0, 0, dinner), minded ? 0 : 1);
            }
        }
    }

    @Sentence({"of 1 to GRUDGE DINNERS ahead", "DINNERS are 0 .. 19."})
    static void p09_slipsInTheFirstAndLastDinner() {
        ChairGrudge x = Due.inHall("z1,c01");
        x.slip(0, 0, 0);
        x.slip(19, 0, 0);
        Due.due("in dinner 0", x.bears(0, 0, 0), 1);
        Due.due("in dinner 1", x.bears(0, 0, 1), 0);
        Due.due("in dinner 19", x.bears(0, 0, 19), 1);
        x.slip(18, 0, 0);
        Due.due("18 in 19", x.bears(0, 0, 19), 0);
    }

    @Sentence("A THRONE BEARS as a CHAIR, but with a GRUDGE twice as long.")
    static void p09_aThronesGrudgeIsTwiceAsLong() {
        for (int grudge = 0; grudge <= 9; grudge++) {
            ChairGrudge x = Due.inHall("z1,t0" + grudge);
            x.slip(0, 0, 0);
            for (int dinner = 0; dinner < 20; dinner++) {
                boolean minded = dinner >= 1 && dinner <= grudge + grudge;
                Due.due("grudge " + grudge + ", dinner " + dinner, x.bears(0, 0, dinner), minded ? 0 : 1);
            }
        }
    }

    @Sentence("A BENCH BEARS those whom no BENCH (of all CHAIRS of kind 1, itself, too) MINDS.")
    static void p09_aBenchByItselfAlone() {
        ChairGrudge x = Due.inHall("z1,b02");
        x.slip(4, 0, 0);
        for (int dinner = 4; dinner < 8; dinner++) {
            Due.due("dinner " + dinner, x.bears(0, 0, dinner), dinner == 5 || dinner == 6 ? 0 : 1);
        }
    }

    @Sentence("A BENCH BEARS those whom no BENCH (of all CHAIRS of kind 1, itself, too) MINDS.")
    static void p09_aBenchByTheFurthestBench() {
        ChairGrudge x = Due.inHall("z1,b00,c09,t09,c09,b01");
        x.slip(4, 0, 4);
        Due.due("by the other's grudge", x.bears(0, 0, 5), 0);
        Due.due("no longer than that", x.bears(0, 0, 6), 1);
        Due.due("no chair between", x.bears(1, 0, 5) + x.bears(2, 0, 5) + x.bears(3, 0, 5), 3);
    }

    @Sentence("(of all CHAIRS of kind 1, itself, too)")
    static void p09_chairsAndThronesAreNotOfKindOne() {
        ChairGrudge x = Due.inHall("z1,c09,b09,t09");
        x.slip(0, 0, 0);
        x.slip(0, 0, 2);
        Due.due("the chair minds", x.bears(0, 0, 1), 0);
        Due.due("the throne minds", x.bears(2, 0, 1), 0);
        Due.due("the bench does not", x.bears(1, 0, 1), 1);
    }

    @Sentence({"of all CHAIRS of kind 1", "that it has not FORGIVEN"})
    static void p09_eachBenchForgivesForItself() {
        ChairGrudge x = Due.inHall("z1,b19,b19");
        x.slip(0, 0, 0);
        x.butter(1, 0, 0);
        Due.due("bench 1 still minds", x.bears(0, 0, 2), 0);
        x.butter(2, 0, 1);
        Due.due("in the butter's dinner", x.bears(0, 0, 2), 0);
        Due.due("none minds", x.bears(0, 0, 3), 1);
    }

    @Sentence("Whether a CHAIR BEARS a GUEST in a DINNER (1, 0). UNKNOWN; OUTSIDE.")
    static void p09_refusals() {
        ChairGrudge x = Due.inHall("z3,c09,b09");
        Due.due("the last of all", x.bears(1, 2, 19), 1);
        for (int c : Edges.beyond(2)) {
            Due.due("chair " + c, x.bears(c, 0, 0), UNKNOWN);
            Due.due("UNKNOWN ahead of OUTSIDE", x.bears(c, 0, 20), UNKNOWN);
        }
        for (int g : Edges.beyond(3)) {
            Due.due("guest " + g, x.bears(0, g, 0), UNKNOWN);
            Due.due("UNKNOWN ahead of OUTSIDE", x.bears(0, g, -1), UNKNOWN);
        }
        for (int dinner : Edges.beyond(20)) {
            Due.due("dinner " + dinner, x.bears(0, 0, dinner), OUTSIDE);
        }
        Due.due("without a hall", new ChairGrudge().bears(0, 0, 0), UNKNOWN);
    }

    @Sentence("they change nothing")
    static void p09_refusedChangesNothing() {
        Twins.unchanged("chair", UNKNOWN, x -> x.bears(3, 0, 0));
        Twins.unchanged("dinner", OUTSIDE, x -> x.bears(0, 0, 20));
    }

    // ---- 10 whom

    @Sentence({"GUESTS whom a CHAIR BEARS in a DINNER, as a set.", "Sets are told as bits (bit k for number k)."})
    static void p10_allAndNone() {
        for (int guests = 1; guests <= 5; guests++) {
            int all = (1 << guests) - 1;
            ChairGrudge x = minding(guests, 0, all);
            Due.due("all", x.whom(0, 1), all);
            Due.due("none", x.whom(1, 1), 0);
            Due.due("all, ahead of the slips", x.whom(1, 0), all);
        }
    }

    @Sentence("(bit k for number k)")
    static void p10_bitKForNumberK() {
        ChairGrudge x = minding(5, 1, 2, 4, 8, 16);
        for (int c = 0; c < 5; c++) {
            Due.due("all but " + c, x.whom(c, 1), 31 - (1 << c));
        }
    }

    @Sentence("as a set. UNKNOWN; OUTSIDE.")
    static void p10_refusals() {
        ChairGrudge x = Due.inHall("z3,c09,b09");
        Due.due("the last of all", x.whom(1, 19), 7);
        for (int c : Edges.beyond(2)) {
            Due.due("chair " + c, x.whom(c, 0), UNKNOWN);
            Due.due("UNKNOWN ahead of OUTSIDE", x.whom(c, 20), UNKNOWN);
        }
        for (int dinner : Edges.beyond(20)) {
            Due.due("dinner " + dinner, x.whom(0, dinner), OUTSIDE);
        }
        Due.due("without a hall", new ChairGrudge().whom(0, 0), UNKNOWN);
    }

    @Sentence("they change nothing")
    static void p10_refusedChangesNothing() {
        Twins.unchanged("chair", UNKNOWN, x -> x.whom(3, 0));
        Twins.unchanged("dinner", OUTSIDE, x -> x.whom(0, 20));
    }

    // ---- 11 seats

    @Sentence("SEATS in a DINNER: as many GUESTS as can be sit on CHAIRS that BEAR them, one on each")
    static void p11_asManyAsCanBe() {
        seated(minding(1, 0), 1, 1, 0);
        seated(minding(5, 0, 0, 0, 0, 0), 1, 5, 0, 1, 2, 3, 4);
        // to take the first chair at once would leave the next guest standing
        seated(minding(2, 0, 2), 1, 2, 1, 0);
        // guest 3 has chair 0 alone, so guest 2 has chair 3 alone, and so on
        seated(minding(4, 0, 14, 12, 8), 1, 4, 1, 2, 3, 0);
    }

    @Sentence("NONE: he stands.")
    static void p11_nobodyCanSit() {
        seated(minding(3, 7), 1, 0, NONE, NONE, NONE);
        seated(minding(1, 1, 1, 1), 1, 0, NONE);
    }

    @Sentence("of several ways the first as a row of CHAIRS by GUESTS")
    static void p11_theFirstOfSeveralWays() {
        seated(minding(2, 0, 0, 0), 1, 2, 0, 1);
        seated(minding(3, 1, 0, 0), 1, 3, 1, 0, 2);
        seated(minding(3, 0, 3, 0), 1, 3, 0, 2, 1);
        seated(minding(2, 1, 2, 0), 1, 2, 1, 0);
    }

    @Sentence("(one who stands behind all CHAIRS)")
    static void p11_oneWhoStandsIsBehindAllChairs() {
        seated(minding(5, 0, 0), 1, 2, 0, 1, NONE, NONE, NONE);
        // guests 0 and 1 want chair 1 alone: 0 has it, though 1 could as well
        seated(minding(3, 3, 0), 1, 2, 1, NONE, 0);
        // the last chair is still ahead of standing
        seated(minding(3, 7, 7, 0), 1, 1, 2, NONE, NONE);
        // guest 0 sits on 0 and guest 1 stands, ahead of 0 standing, 1 on 0
        seated(minding(2, 0), 1, 1, 0, NONE);
    }

    @Sentence({"A TEXT that is taken makes all anew", "as many GUESTS as can be sit on CHAIRS that BEAR them"})
    static void p11_nothingIsLeftOfALargerHall() {
        ChairGrudge x = minding(5, 31, 0);
        seated(x, 1, 1, 1, NONE, NONE, NONE, NONE);
        Due.due("a smaller hall", Due.tryHall(x, "z1,c01,c01"), 2);
        seated(x, 1, 1, 0);
        x.slip(0, 0, 0);
        x.slip(0, 0, 1);
        seated(x, 1, 0, NONE);
        Due.due("a smaller one", Due.tryHall(x, "z3,c01"), 1);
        seated(x, 1, 1, 0, NONE, NONE);
        Due.due("a larger one", Due.tryHall(x, "z4,c01,c01,c01,c01,c01"), 5);
        seated(x, 1, 4, 0, 1, 2, 3);
    }

    @Sentence("SEATS: how many sit (g -1), the CHAIR of GUEST g; NONE: he stands. UNKNOWN: g is not -1, no GUEST")
    static void p11_noSuchGuest() {
        ChairGrudge x = Due.inHall("z3,c00,c00");
        Due.due("all", x.seats(0, -1), 2);
        Due.due("the last guest", x.seats(0, 2), NONE);
        for (int g : Edges.beyond(3)) {
            if (g != -1) {
                Due.due("guest " + g, x.seats(0, g), UNKNOWN);
                Due.due("UNKNOWN ahead of OUTSIDE", x.seats(20, g), UNKNOWN);
                Due.due("UNKNOWN ahead of STATE", new ChairGrudge().seats(0, g), UNKNOWN);
            }
        }
        Due.due("guest 0 without a hall", new ChairGrudge().seats(0, 0), UNKNOWN);
    }

    @Sentence({"OUTSIDE: dinner; STATE: there is no HALL.", "OUTSIDE (another number is not as told), STATE (as told)"})
    static void p11_dinnersAndNoHall() {
        ChairGrudge x = Due.inHall("z1,c00");
        Due.due("the first dinner", x.seats(0, 0), 0);
        Due.due("the last dinner", x.seats(19, 0), 0);
        ChairGrudge none = new ChairGrudge();
        for (int dinner : Edges.beyond(20)) {
            Due.due("dinner " + dinner, x.seats(dinner, -1), OUTSIDE);
            Due.due("dinner " + dinner + " of guest 0", x.seats(dinner, 0), OUTSIDE);
            Due.due("OUTSIDE ahead of STATE", none.seats(dinner, -1), OUTSIDE);
        }
        Due.due("no hall", none.seats(0, -1), STATE);
        Due.due("no hall by a wrong text", Due.tryHall(none, "z1,c0"), -105);
        Due.due("still no hall", none.seats(19, -1), STATE);
    }

    @Sentence("they change nothing")
    static void p11_refusedChangesNothing() {
        Twins.unchanged("guest", UNKNOWN, x -> x.seats(0, 3));
        Twins.unchanged("dinner", OUTSIDE, x -> x.seats(20, -1));
        Twins.unchangedWithoutHall("state", STATE, x -> x.seats(0, -1));
    }

    // ---- 12 few

    @Sentence("FEW: a smallest set of GUESTS for whom there are fewer CHAIRS that BEAR one of them"
        + " or more than they are")
    static void p12_aSmallestSet() {
        Due.due("one who is borne nowhere", minding(3, 4, 4, 4).few(1), 4);
        Due.due("two for one chair", minding(3, 6, 0, 6).few(1), 6);
        Due.due("three for two chairs", minding(4, 14, 14, 0, 0).few(1), 14);
        Due.due("four for three chairs", minding(4, 0, 0, 0).few(1), 15);
        Due.due("five for four chairs", minding(5, 0, 0, 0, 0).few(1), 31);
        Due.due("one, though two others are short as well", minding(5, 19, 16, 19).few(1), 16);
    }

    @Sentence("of several the least; NONE: there is none.")
    static void p12_theLeastOfSeveral() {
        Due.due("of single ones", minding(5, 26, 26).few(1), 2);
        Due.due("of pairs", minding(5, 0).few(1), 3);
        Due.due("of threes", minding(5, 0, 0).few(1), 7);
        Due.due("of all who are minded by the one chair", minding(3, 7).few(1), 1);
    }

    @Sentence("NONE: there is none.")
    static void p12_none() {
        Due.due("as many chairs as guests", minding(5, 0, 0, 0, 0, 0).few(1), NONE);
        Due.due("just enough for each set", minding(4, 0, 14, 12, 8).few(1), NONE);
        Due.due("in another dinner", minding(2, 3, 3).few(2), NONE);
    }

    @Sentence("FEW, as a set; NONE. OUTSIDE; STATE: there is no HALL.")
    static void p12_refusals() {
        ChairGrudge x = Due.inHall("z2,c00");
        Due.due("the first dinner", x.few(0), 3);
        Due.due("the last dinner", x.few(19), 3);
        ChairGrudge none = new ChairGrudge();
        for (int dinner : Edges.beyond(20)) {
            Due.due("dinner " + dinner, x.few(dinner), OUTSIDE);
            Due.due("OUTSIDE ahead of STATE", none.few(dinner), OUTSIDE);
        }
        Due.due("no hall", none.few(0), STATE);
    }

    @Sentence("they change nothing")
    static void p12_refusedChangesNothing() {
        Twins.unchanged("dinner", OUTSIDE, x -> x.few(20));
        Twins.unchangedWithoutHall("state", STATE, x -> x.few(0));
    }

    // ---- 13 tipped

    private static void tips(ChairGrudge x, int dinner, int want, int... chairs) {
        for (int lane = 0; lane < 3; lane++) {
            Edges.write(x, 1, lane, chairs);
            Edges.faulty("a seating, lane " + lane, x, x.tipped(dinner, 1, lane, 0, chairs.length), want);
        }
    }

    @Sentence("the first GUEST who is tipped (his CHAIR does not BEAR him, or a GUEST ahead sits on it)")
    static void p13_theFirstWhoIsTipped() {
        ChairGrudge x = minding(4, 8, 1, 4);
        tips(x, 1, NONE, 0, 2, 1);
        tips(x, 1, 0, 1, 0, 2, 0);
        tips(x, 1, 2, 0, 1, 2, 0);
        tips(x, 1, 3, 2, NONE, 1, 0);
        tips(x, 0, NONE, 1, 0, 2, NONE);
        tips(x, 1, 1, 0, 0);
        tips(x, 1, 2, 0, 1, 1);
        tips(x, 1, 3, 0, 1, NONE, 1);
    }

    @Sentence("NONE: nobody is.")
    static void p13_nobodyIs() {
        tips(minding(1, 0), 1, NONE, 0);
        tips(minding(5, 0, 0, 0, 0, 0), 1, NONE, 4, 3, 2, 1, 0);
        tips(minding(2, 3, 3), 1, NONE, NONE, NONE);
        tips(minding(2, 3, 3), 0, NONE, 1, 0);
        tips(minding(2, 3, 3), 2, NONE, 0, 1);
    }

    @Sentence("or a GUEST ahead sits on it")
    static void p13_oneWhoWasTippedStillSitsAhead() {
        // guest 0 is tipped by chair 0, so he is told, though guest 1 is tipped as well
        tips(minding(2, 1), 1, 0, 0, 0);
        // a guest behind does not tip the one ahead
        tips(minding(2, 0), 1, 1, 0, 0);
    }

    @Sentence("or a GUEST ahead sits on it")
    static void p13_anyGuestAhead() {
        tips(minding(3, 0, 0), 1, 2, 0, 1, 0);
        tips(minding(4, 0, 0, 0), 1, 3, 0, 1, 2, 0);
        tips(minding(4, 0, 0, 0), 1, 3, 0, 1, NONE, 1);
    }

    @Sentence("UNKNOWN: a cell is no CHAIR, and not NONE (he stands).")
    static void p13_whoStandsIsNotTipped() {
        ChairGrudge x = minding(3, 7);
        tips(x, 1, NONE, NONE, NONE, NONE);
        tips(x, 1, 2, NONE, NONE, 0);
        for (int cell : new int[] {-1, 1, 2, -2, -8, -10, 127, -128}) {
            tips(x, 0, UNKNOWN, cell);
            tips(x, 0, UNKNOWN, NONE, 0, cell);
        }
        Edges.write(x, 1, 2, 65536, MIN);
        Edges.faulty("a cell far beyond", x, x.tipped(0, 1, 2, 0, 1), UNKNOWN);
        Edges.faulty("a cell far below", x, x.tipped(0, 1, 2, 1, 1), UNKNOWN);
        Edges.write(x, 1, 0, 256 - 9, 256);
        Edges.faulty("cut to NONE, cut to chair 0", x, x.tipped(0, 1, 0, 0, 2), NONE);
    }

    @Sentence("UNKNOWN: a cell is no CHAIR, and not NONE (he stands).")
    static void p13_noChairBehindOneWhoIsTipped() {
        ChairGrudge x = minding(3, 7);
        tips(x, 1, 0, 0, NONE, NONE);
        tips(x, 1, UNKNOWN, 0, NONE, 1);
        tips(x, 0, 1, 0, 0, NONE);
        tips(x, 0, UNKNOWN, 0, 0, -1);
        Edges.write(x, 1, 2, 0, 1);
        Edges.faulty("a cell that is not told does not count", x, x.tipped(1, 1, 2, 0, 1), 0);
    }

    @Sentence("A SEATING by n cells of a SHEET, the CHAIR of GUEST 0, 1 ..")
    static void p13_noneToAllGuestsAreTold() {
        ChairGrudge x = minding(3, 0, 0, 0, 2);
        Edges.write(x, 1, 2, 0, 3, 1);
        Edges.faulty("no cells", x, x.tipped(1, 1, 2, 0, 0), NONE);
        Edges.faulty("guest 0 alone", x, x.tipped(1, 1, 2, 0, 1), NONE);
        Edges.faulty("two", x, x.tipped(1, 1, 2, 0, 2), 1);
        Edges.faulty("all", x, x.tipped(1, 1, 2, 0, 3), 1);
        Edges.faulty("from cell 1 on it is guest 0's", x, x.tipped(1, 1, 2, 1, 2), NONE);
        Edges.faulty("from the end", x, x.tipped(1, 1, 2, 3, 0), NONE);
    }

    @Sentence("OUTSIDE: n is above how many GUESTS there are")
    static void p13_moreCellsThanGuests() {
        for (int guests = 1; guests <= 5; guests++) {
            ChairGrudge x = minding(guests, 0);
            Edges.write(x, 1, 2, NONE, NONE, NONE, NONE, NONE, NONE);
            Edges.faulty("as many", x, x.tipped(1, 1, 2, 0, guests), NONE);
            Edges.faulty("one more", x, x.tipped(1, 1, 2, 0, guests + 1), OUTSIDE);
        }
    }

    @Sentence("UNKNOWN: SHEET; OUTSIDE: lane, dinner; FAULTS CAST, NULL, SIZE, INDEX; STATE: there is no HALL")
    static void p13_refusals() {
        ChairGrudge x = Due.inHall("z3,c09,b09");
        x.sheet(1, 1, 2);
        Edges.faulty("the last dinner", x, x.tipped(19, 1, 1, 0, 1), NONE);
        for (int k : Edges.beyond(4)) {
            Edges.faulty("sheet " + k, x, x.tipped(0, k, 1, 0, 1), UNKNOWN);
        }
        for (int lane : Edges.beyond(3)) {
            Edges.faulty("lane " + lane, x, x.tipped(0, 1, lane, 0, 1), OUTSIDE);
        }
        for (int dinner : Edges.beyond(20)) {
            Edges.faulty("dinner " + dinner, x, x.tipped(dinner, 1, 1, 0, 1), OUTSIDE);
        }
        ChairGrudge none = new ChairGrudge();
        none.sheet(1, 1, 2);
        Edges.faulty("no hall", none, none.tipped(0, 1, 1, 0, 0), STATE);
    }

    @Sentence({"FAULTS CAST, NULL, SIZE, INDEX", "2 CAST (it is of another lane, kind)", "1 NULL (there is nothing)",
        "4 SIZE (a length below 0)"})
    static void p13_faults() {
        for (int lane = 0; lane < 3; lane++) {
            ChairGrudge x = Due.inHall("z3,c09,b09");
            for (int as = 0; as < 3; as++) {
                x.sheet(1, lane, 2);
                Edges.faulty(lane + " as " + as, x, x.tipped(0, 1, as, 0, 1), lane == as ? NONE : CAST);
                x.lose(1);
                Edges.faulty("nothing as " + as, x, x.tipped(0, 1, as, 0, 1), NULL);
            }
            x.sheet(1, lane, 2);
            Edges.faulty("-1", x, x.tipped(0, 1, lane, 0, -1), SIZE);
            Edges.faulty("the least", x, x.tipped(0, 1, lane, 2, MIN), SIZE);
            int[][] gone = {{0, 3}, {1, 2}, {2, 1}, {-1, 1}, {-1, 3}, {1, MAX}, {2, MAX}, {MAX, 1}, {MAX, MAX}, {MIN, 1}};
            for (int[] cells : gone) {
                Edges.faulty(cells[1] + " from " + cells[0], x, x.tipped(0, 1, lane, cells[0], cells[1]), INDEX);
            }
        }
    }

    @Sentence("(of cells from i on also where i is not 0 .. how many there are, if none of them is taken, too)")
    static void p13_indexOfNoCells() {
        ChairGrudge x = Due.inHall("z3,c09,b09");
        x.sheet(1, 2, 2);
        Edges.faulty("none from the end", x, x.tipped(0, 1, 2, 2, 0), NONE);
        for (int i : new int[] {-1, 3, 60, MIN, MAX}) {
            Edges.faulty("none from " + i, x, x.tipped(0, 1, 2, i, 0), INDEX);
        }
        x.sheet(1, 2, 0);
        Edges.faulty("none of none", x, x.tipped(0, 1, 2, 0, 0), NONE);
        Edges.faulty("none of none from 1", x, x.tipped(0, 1, 2, 1, 0), INDEX);
    }

    @Sentence("STATE: there is no HALL; OUTSIDE: n is above how many GUESTS there are; UNKNOWN: a cell is no CHAIR")
    static void p13_theFirstInTheOrderTold() {
        ChairGrudge x = new ChairGrudge();
        Edges.faulty("UNKNOWN ahead of lane", x, x.tipped(20, 4, 3, -1, -1), UNKNOWN);
        Edges.faulty("lane ahead of NULL", x, x.tipped(0, 0, 3, -1, -1), OUTSIDE);
        Edges.faulty("dinner ahead of NULL", x, x.tipped(20, 0, 0, -1, -1), OUTSIDE);
        Edges.faulty("NULL ahead of SIZE, INDEX", x, x.tipped(0, 0, 0, -1, -1), NULL);
        Edges.faulty("NULL ahead of STATE", x, x.tipped(0, 0, 0, 0, 0), NULL);
        Edges.write(x, 0, 1, 7, 7, 7, 7);
        Edges.faulty("dinner ahead of CAST", x, x.tipped(20, 0, 0, 0, 1), OUTSIDE);
        Edges.faulty("CAST ahead of SIZE", x, x.tipped(0, 0, 0, 0, -1), CAST);
        Edges.faulty("CAST ahead of STATE", x, x.tipped(0, 0, 0, 0, 1), CAST);
        Edges.faulty("SIZE ahead of INDEX", x, x.tipped(0, 0, 1, 5, -1), SIZE);
        Edges.faulty("SIZE ahead of STATE", x, x.tipped(0, 0, 1, 0, -1), SIZE);
        Edges.faulty("INDEX ahead of STATE", x, x.tipped(0, 0, 1, 0, 5), INDEX);
        Edges.faulty("STATE ahead of cells, n", x, x.tipped(0, 0, 1, 0, 4), STATE);
        Due.write(x, 2, "z3,c00");
        Due.due("a hall", x.hall(2, 0, 0, 6), 1);
        Edges.faulty("INDEX ahead of n", x, x.tipped(0, 0, 1, 0, 5), INDEX);
        Edges.faulty("n ahead of cells", x, x.tipped(0, 0, 1, 0, 4), OUTSIDE);
        Edges.faulty("cells", x, x.tipped(0, 0, 1, 0, 3), UNKNOWN);
    }

    @Sentence({"they change nothing (but fault(), of a call that names FAULTS)", "and changes nothing; fault() tells it"})
    static void p13_refusedChangesNothing() {
        Twins.unchanged("sheet", UNKNOWN, x -> x.tipped(0, 4, 1, 0, 1));
        Twins.unchanged("lane", OUTSIDE, x -> x.tipped(0, 1, 3, 0, 1));
        Twins.unchanged("dinner", OUTSIDE, x -> x.tipped(20, 1, 1, 0, 1));
        Twins.unchanged("cast", CAST, x -> x.tipped(0, 1, 0, 0, 1));
        Twins.unchanged("null", NULL, x -> x.tipped(0, 3, 0, 0, 1));
        Twins.unchanged("size", SIZE, x -> x.tipped(0, 1, 1, 0, -1));
        Twins.unchanged("index", INDEX, x -> x.tipped(0, 1, 1, 0, 4));
        Twins.unchangedWithoutHall("state", STATE, x -> x.tipped(0, 1, 1, 0, 1));
        Twins.unchanged("n", OUTSIDE, x -> x.tipped(0, 0, 0, 0, 4));
        Twins.unchanged("cell", UNKNOWN, x -> x.tipped(0, 1, 1, 0, 1));
    }

    // ---- 14 least

    @Sentence("LEAST: the fewest BUTTERS (a GUEST to a CHAIR, given just ahead, so that it BEARS him in any case)")
    static void p14_noneToAllGuests() {
        buttered(minding(5, 0, 0, 0, 0, 0), 1, 0, 0, 1, 2, 3, 4);
        buttered(minding(1, 1), 1, 1, 0);
        buttered(minding(2, 3, 3), 1, 2, 0, 1);
        ChairGrudge x = Due.inHall("z5,c41,c41,c41,c41,c41");
        for (int g = 0; g < 5; g++) {
            buttered(x, 1, g, 0, 1, 2, 3, 4);
            x.slip(0, g, g);
        }
        buttered(x, 1, 5, 0, 1, 2, 3, 4);
        buttered(x, 2, 0, 0, 1, 2, 3, 4);
    }

    @Sentence("by which all GUESTS sit: of several ways to sit the first as a row of CHAIRS by GUESTS")
    static void p14_theFirstOfSeveralWays() {
        // no butter is needed, if guest 0 leaves chair 0 to guest 1
        buttered(minding(2, 0, 2), 1, 0, 1, 0);
        // one butter in any way: the first row has guest 0 on chair 0, and he gives it
        buttered(minding(2, 3, 0), 1, 1, 0, 1);
        // guests 1 and 2 are both for chair 0 alone: one gives, in the first row it is he who sits on chair 1
        buttered(minding(3, 0, 6, 6), 1, 1, 1, 0, 2);
        buttered(minding(1, 1, 0), 1, 0, 1);
    }

    @Sentence("given just ahead, so that it BEARS him in any case")
    static void p14_aBenchBearsInAnyCase() {
        ChairGrudge x = Due.inHall("z1,b09,b09");
        x.slip(0, 0, 1);
        buttered(x, 1, 1, 0);
        Due.due("nothing is given by the call", x.many(3), 0);
        Due.due("it still minds", x.bears(0, 0, 1), 0);
        for (int k = 0; k < 8; k++) {
            x.butter(19, 0, 0);
        }
        buttered(x, 1, 1, 0);
    }

    @Sentence("NONE: there are more GUESTS than CHAIRS.")
    static void p14_moreGuestsThanChairs() {
        for (int guests = 1; guests <= 5; guests++) {
            for (int chairs = 1; chairs <= 5; chairs++) {
                ChairGrudge x = minding(guests, new int[chairs]);
                Due.due(guests + " on " + chairs, x.least(1, -1), guests > chairs ? NONE : 0);
                for (int g = 0; g < guests; g++) {
                    Due.due(guests + " on " + chairs + ", guest " + g, x.least(1, g), guests > chairs ? NONE : g);
                }
            }
        }
    }

    @Sentence({"A TEXT that is taken makes all anew", "the fewest BUTTERS"})
    static void p14_nothingIsLeftOfALargerHall() {
        ChairGrudge x = minding(4, 3, 3, 15);
        buttered(x, 1, NONE, NONE, NONE, NONE, NONE);
        Due.due("a smaller hall", Due.tryHall(x, "z1,c01,c01"), 2);
        buttered(x, 1, 0, 0);
        x.slip(0, 0, 0);
        buttered(x, 1, 0, 1);
        Due.due("a smaller one", Due.tryHall(x, "z1,c01"), 1);
        buttered(x, 1, 0, 0);
        x.slip(0, 0, 0);
        buttered(x, 1, 1, 0);
    }

    @Sentence("LEAST: how many BUTTERS (g -1), the CHAIR of GUEST g; NONE. UNKNOWN: g is not -1, no GUEST")
    static void p14_noSuchGuest() {
        ChairGrudge x = Due.inHall("z3,c00,c00");
        Due.due("all", x.least(0, -1), NONE);
        for (int g : Edges.beyond(3)) {
            if (g != -1) {
                Due.due("guest " + g, x.least(0, g), UNKNOWN);
                Due.due("UNKNOWN ahead of OUTSIDE", x.least(20, g), UNKNOWN);
                Due.due("UNKNOWN ahead of STATE", new ChairGrudge().least(0, g), UNKNOWN);
            }
        }
        Due.due("guest 0 without a hall", new ChairGrudge().least(0, 0), UNKNOWN);
    }

    @Sentence("OUTSIDE: dinner; STATE: there is no HALL.")
    static void p14_dinnersAndNoHall() {
        ChairGrudge x = Due.inHall("z1,c00");
        Due.due("the first dinner", x.least(0, -1), 0);
        Due.due("the last dinner", x.least(19, 0), 0);
        ChairGrudge none = new ChairGrudge();
        for (int dinner : Edges.beyond(20)) {
            Due.due("dinner " + dinner, x.least(dinner, -1), OUTSIDE);
            Due.due("dinner " + dinner + " of guest 0", x.least(dinner, 0), OUTSIDE);
            Due.due("OUTSIDE ahead of STATE", none.least(dinner, -1), OUTSIDE);
        }
        Due.due("no hall", none.least(0, -1), STATE);
    }

    @Sentence("they change nothing")
    static void p14_refusedChangesNothing() {
        Twins.unchanged("guest", UNKNOWN, x -> x.least(0, 3));
        Twins.unchanged("dinner", OUTSIDE, x -> x.least(20, -1));
        Twins.unchangedWithoutHall("state", STATE, x -> x.least(0, -1));
    }

    // ---- 15 when

    @Sentence("WHEN: the first DINNER from one on in which all can sit (with SLIPS, BUTTER as told)")
    static void p15_fromOneOn() {
        ChairGrudge x = Due.inHall("z1,c03");
        x.slip(5, 0, 0);
        int[] due = {0, 1, 2, 3, 4, 5, 9, 9, 9, 9, 10, 11, 12, 13, 14, 15, 16, 17, 18, 19};
        for (int dinner = 0; dinner < 20; dinner++) {
            Due.due("from " + dinner, x.when(dinner), due[dinner]);
        }
    }

    @Sentence("(with SLIPS, BUTTER as told)")
    static void p15_slipsAndButterOfLaterDinners() {
        ChairGrudge x = Due.inHall("z1,c09");
        x.slip(0, 0, 0);
        x.slip(10, 0, 0);
        Due.due("a slip comes just as the first is over", x.when(1), 10);
        x.slip(9, 0, 0);
        Due.due("one comes ahead of that", x.when(1), NONE);
        x.butter(13, 0, 0);
        Due.due("until it is forgiven", x.when(1), 14);
    }

    @Sentence("NONE: in none.")
    static void p15_noneUpToTheLastDinner() {
        ChairGrudge x = Due.inHall("z1,c09");
        x.slip(10, 0, 0);
        Due.due("to the last dinner", x.when(11), NONE);
        Due.due("in the last dinner", x.when(19), NONE);
        Due.due("ahead of it", x.when(10), 10);
        x.unsay(1);
        x.slip(9, 0, 0);
        Due.due("the last dinner", x.when(10), 19);
        Due.due("more guests than chairs", Due.inHall("z2,c00").when(0), NONE);
    }

    @Sentence("WHEN; NONE. OUTSIDE; STATE: there is no HALL.")
    static void p15_refusals() {
        ChairGrudge x = Due.inHall("z1,c00");
        ChairGrudge none = new ChairGrudge();
        for (int dinner : Edges.beyond(20)) {
            Due.due("dinner " + dinner, x.when(dinner), OUTSIDE);
            Due.due("OUTSIDE ahead of STATE", none.when(dinner), OUTSIDE);
        }
        Due.due("no hall", none.when(0), STATE);
        Due.due("no hall", none.when(19), STATE);
    }

    @Sentence("they change nothing")
    static void p15_refusedChangesNothing() {
        Twins.unchanged("dinner", OUTSIDE, x -> x.when(20));
        Twins.unchangedWithoutHall("state", STATE, x -> x.when(0));
    }

    // ---- 16 fresh

    @Sentence("FRESH: how many GUESTS more can sit in a DINNER, if a CHAIR remembers nothing")
    static void p16_noneAndMore() {
        ChairGrudge x = minding(2, 3, 3);
        Due.due("one more", x.fresh(0, 1), 1);
        Due.due("none, as nothing is minded", x.fresh(0, 0), 0);
        Due.due("none, as all sit", minding(2, 1, 0).fresh(0, 1), 0);
        Due.due("none, as all chairs are taken", minding(3, 3, 0).fresh(0, 1), 0);
        Due.due("it is only supposed", x.seats(1, -1), 0);
        Due.due("it is only supposed", x.whom(0, 1), 0);
    }

    @Sentence("(it BEARS all, and as a BENCH MINDS none)")
    static void p16_aBenchMindsNone() {
        ChairGrudge x = Due.inHall("z5,b41,b01,b01,b01,b01");
        for (int g = 0; g < 5; g++) {
            x.slip(0, g, 0);
        }
        Due.due("nobody sits", x.seats(1, -1), 0);
        Due.due("all by the one that minds", x.fresh(0, 1), 5);
        Due.due("one by another", x.fresh(1, 1), 1);
        Due.due("one by the last", x.fresh(4, 1), 1);
    }

    @Sentence("(it BEARS all, and as a BENCH MINDS none)")
    static void p16_aBenchBearsAllThoughAnotherMinds() {
        ChairGrudge x = Due.inHall("z2,b11,b11");
        x.slip(0, 0, 0);
        x.slip(0, 1, 0);
        Due.due("the other still minds", x.fresh(0, 1), 1);
        Due.due("the other still minds", x.fresh(1, 1), 1);
    }

    @Sentence("if a CHAIR remembers nothing (it BEARS all")
    static void p16_aThroneForgetsAllTheWay() {
        ChairGrudge x = Due.inHall("z1,t09");
        x.slip(0, 0, 0);
        Due.due("in dinner 1", x.fresh(0, 1), 1);
        Due.due("in dinner 18", x.fresh(0, 18), 1);
        Due.due("in dinner 19", x.fresh(0, 19), 0);
    }

    @Sentence("FRESH. UNKNOWN; OUTSIDE.")
    static void p16_refusals() {
        ChairGrudge x = Due.inHall("z3,c09,b09");
        Due.due("the last chair in the last dinner", x.fresh(1, 19), 0);
        for (int c : Edges.beyond(2)) {
            Due.due("chair " + c, x.fresh(c, 0), UNKNOWN);
            Due.due("UNKNOWN ahead of OUTSIDE", x.fresh(c, 20), UNKNOWN);
        }
        for (int dinner : Edges.beyond(20)) {
            Due.due("dinner " + dinner, x.fresh(0, dinner), OUTSIDE);
        }
        Due.due("without a hall", new ChairGrudge().fresh(0, 0), UNKNOWN);
    }

    @Sentence("they change nothing")
    static void p16_refusedChangesNothing() {
        Twins.unchanged("chair", UNKNOWN, x -> x.fresh(3, 0));
        Twins.unchanged("dinner", OUTSIDE, x -> x.fresh(0, 20));
    }
}

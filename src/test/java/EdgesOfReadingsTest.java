/** Promises 17 to 23: the boundary cases of readings, what follows from them, odds. */
final class EdgesOfReadingsTest {
    private static final int MIN = Edges.MIN, MAX = Edges.MAX;
    private static final int UNKNOWN = Edges.UNKNOWN, OUTSIDE = Edges.OUTSIDE, FULL = Edges.FULL;
    private static final long LOST = Edges.LOST;
    private static final int ALL_TIMES = (1 << 20) - 1, ALL_GRUDGES = (1 << 10) - 1, ALL_EARS = 31, ALL_KINDS = 7;

    private EdgesOfReadingsTest() {
    }

    public static void main(String[] args) throws Exception {
        Edges.run(EdgesOfReadingsTest.class, 17, 23);
    }

    // ---- 17 reading

    @Sentence("READINGS, 8 at most, numbered by how many there are")
    static void p17_eightAtMost() {
        ChairGrudge x = Due.inHall("z1,c09");
        for (int k = 0; k < 8; k++) {
            Due.due("reading", x.reading(k, 0, 0, true), k);
        }
        Due.due("a ninth", x.reading(9, 0, 0, false), FULL);
        Due.due("and again", x.reading(9, 0, 0, true), FULL);
        Due.due("eight", x.many(4), 8);
        Due.due("the ninth was not so, and is none", x.grudges(0), ALL_GRUDGES);
        x.back(1);
        Due.due("room for one", x.reading(9, 0, 0, false), 7);
        Due.due("it counts", x.grudges(0), 0);
        Due.due("full again", x.reading(9, 0, 0, true), FULL);
    }

    @Sentence("READINGS, 8 at most, numbered by how many there are")
    static void p17_numberedByHowManyThereAre() {
        ChairGrudge x = Due.inHall("z1,c09");
        x.slip(0, 0, 0);
        x.butter(0, 0, 0);
        Due.due("slips and butter are none", x.reading(0, 0, 0, true), 0);
        Due.due("a refused one", x.reading(20, 0, 0, true), OUTSIDE);
        Due.due("counts for nothing", x.reading(0, 0, 0, true), 1);
        Due.due("the same twice is two", x.reading(0, 0, 0, true), 2);
        x.back(2);
        Due.due("behind the one that is left", x.reading(0, 0, 0, true), 1);
    }

    @Sentence("in a DINNER a CHAIR BORE a GUEST, or did not")
    static void p17_boreOrDidNot() {
        ChairGrudge x = Due.inHall("z1,c01");
        x.slip(0, 0, 0);
        x.reading(2, 0, 0, true);
        Due.due("it bore", x.grudges(0), Edges.set(0, 1));
        x.back(1);
        x.reading(2, 0, 0, false);
        Due.due("it did not", x.grudges(0), ALL_GRUDGES - 3);
        x.reading(2, 0, 0, true);
        Due.due("both", x.grudges(0), 0);
    }

    @Sentence({"DINNERS are 0 .. 19.", "A READING: its number. UNKNOWN: CHAIR, GUEST; OUTSIDE: dinner; FULL."})
    static void p17_refusals() {
        ChairGrudge x = Due.inHall("z3,c09,b09");
        Due.due("the first dinner", x.reading(0, 0, 0, true), 0);
        Due.due("the last dinner, chair, guest", x.reading(19, 1, 2, true), 1);
        for (int c : Edges.beyond(2)) {
            Due.due("chair " + c, x.reading(0, c, 0, true), UNKNOWN);
        }
        for (int g : Edges.beyond(3)) {
            Due.due("guest " + g, x.reading(0, 0, g, true), UNKNOWN);
        }
        for (int dinner : Edges.beyond(20)) {
            Due.due("dinner " + dinner, x.reading(dinner, 0, 0, true), OUTSIDE);
        }
        Due.due("without a hall", new ChairGrudge().reading(0, 0, 0, true), UNKNOWN);
    }

    @Sentence("REFUSALS, in the order in which a call's line tells them")
    static void p17_theFirstInTheOrderTold() {
        ChairGrudge x = Due.inHall("z1,c09");
        for (int k = 0; k < 8; k++) {
            x.reading(0, 0, 0, true);
        }
        Due.due("chair ahead of dinner, FULL", x.reading(20, 1, 0, true), UNKNOWN);
        Due.due("guest ahead of dinner, FULL", x.reading(20, 0, 1, true), UNKNOWN);
        Due.due("chair ahead of FULL", x.reading(0, 1, 0, true), UNKNOWN);
        Due.due("guest ahead of FULL", x.reading(0, 0, 1, true), UNKNOWN);
        Due.due("dinner ahead of FULL", x.reading(20, 0, 0, true), OUTSIDE);
    }

    @Sentence("they change nothing")
    static void p17_refusedChangesNothing() {
        for (boolean bore : new boolean[] {true, false}) {
            Twins.unchanged("full", FULL, x -> x.reading(0, 0, 0, bore));
            Twins.unchangedWithRoom("chair", UNKNOWN, x -> x.reading(0, 3, 0, bore));
            Twins.unchangedWithRoom("guest", UNKNOWN, x -> x.reading(0, 0, 3, bore));
            Twins.unchangedWithRoom("dinner", OUTSIDE, x -> x.reading(20, 0, 0, bore));
            Twins.unchangedWithoutHall("chair", UNKNOWN, x -> x.reading(0, 0, 0, bore));
        }
    }

    // ---- 18 back

    @Sentence("The last k READINGS (0 .. as many as there are) are taken back: how many are left.")
    static void p18_zeroToAsManyAsThereAre() {
        for (int k = 0; k <= 8; k++) {
            ChairGrudge x = Due.inHall("z1,c01");
            x.slip(0, 0, 0);
            // reading r says that a grudge is below 9 - r, so each that is left shows
            for (int r = 0; r < 8; r++) {
                x.reading(9 - r, 0, 0, true);
            }
            Due.due("back " + k, x.back(k), 8 - k);
            Due.due("left", x.many(4), 8 - k);
            Due.due("by those that are left", x.grudges(0), (1 << 2 + k) - 1);
        }
    }

    @Sentence("(0 .. as many as there are) are taken back: how many are left. OUTSIDE.")
    static void p18_outside() {
        ChairGrudge x = Due.inHall("z1,c00");
        Due.due("none of none", x.back(0), 0);
        Due.due("one of none", x.back(1), OUTSIDE);
        x.slip(0, 0, 0);
        Due.due("a slip is no reading", x.back(1), OUTSIDE);
        for (int r = 0; r < 3; r++) {
            x.reading(r, 0, 0, true);
        }
        for (int k : new int[] {-1, 4, 8, MIN, MAX}) {
            Due.due("back " + k, x.back(k), OUTSIDE);
        }
        Due.due("left", x.many(4), 3);
        Due.due("all", x.back(3), 0);
        Due.due("without a hall", new ChairGrudge().back(0), 0);
        Due.due("without a hall", new ChairGrudge().back(1), OUTSIDE);
    }

    @Sentence("they change nothing")
    static void p18_refusedChangesNothing() {
        Twins.unchanged("beyond", OUTSIDE, x -> x.back(9));
        Twins.unchanged("below", OUTSIDE, x -> x.back(-1));
        Twins.unchanged("none is no change", 8, x -> x.back(0));
    }

    // ---- 19 times

    @Sentence("TIMES of a SLIP: DINNERS 0 .. 19, as a set")
    static void p19_allTwenty() {
        ChairGrudge x = Due.inHall("z1,c09");
        x.slip(7, 0, 0);
        Due.due("without readings", x.times(0), ALL_TIMES);
        x.reading(0, 0, 0, true);
        Due.due("by one that is so in any case", x.times(0), ALL_TIMES);
    }

    @Sentence("TIMES of a SLIP: DINNERS 0 .. 19, as a set")
    static void p19_theFirstOrTheLastDinnerAlone() {
        ChairGrudge x = Due.inHall("z1,c09");
        x.slip(7, 0, 0);
        x.reading(1, 0, 0, false);
        Due.due("the first", x.times(0), Edges.set(0));
        x.back(1);
        // by 9 it is not 0 .. 8, by 18 not 9 .. 17, by 19 not 18
        x.reading(9, 0, 0, true);
        x.reading(18, 0, 0, true);
        x.reading(19, 0, 0, true);
        Due.due("the last", x.times(0), Edges.set(19));
        x.reading(19, 0, 0, false);
        Due.due("none", x.times(0), 0);
    }

    @Sentence({"of 1 to GRUDGE DINNERS ahead", "TIMES of a SLIP: DINNERS 0 .. 19, as a set"})
    static void p19_oneToGrudgeAheadOfTheReading() {
        ChairGrudge x = Due.inHall("z1,c03,t03");
        x.slip(7, 0, 0);
        x.slip(7, 0, 1);
        x.reading(10, 0, 0, false);
        Due.due("a chair", x.times(0), Edges.set(7, 8, 9));
        x.back(1);
        x.reading(10, 1, 0, false);
        Due.due("a throne", x.times(1), Edges.set(4, 5, 6, 7, 8, 9));
        Due.due("not by another slip", x.times(0), ALL_TIMES);
        x.unsay(1);
        Due.due("not without it", x.times(0), 0);
    }

    @Sentence("all his SLIPS up to that DINNER (in it, too) are FORGIVEN by that CHAIR in later DINNERS")
    static void p19_butterByTheTimeThatIsTried() {
        ChairGrudge x = Due.inHall("z1,c09");
        x.slip(0, 0, 0);
        x.butter(5, 0, 0);
        x.reading(8, 0, 0, false);
        Due.due("behind the butter", x.times(0), Edges.set(6, 7));
        x.back(1);
        x.reading(5, 0, 0, false);
        Due.due("in the butter's dinner", x.times(0), Edges.set(0, 1, 2, 3, 4));
    }

    @Sentence("All that follows: in place of what it is alone, by which all READINGS are so")
    static void p19_inPlaceOfWhatItIsAlone() {
        ChairGrudge x = Due.inHall("z1,c02");
        x.slip(3, 0, 0);
        x.slip(9, 0, 0);
        x.reading(4, 0, 0, false);
        x.reading(10, 0, 0, false);
        Due.due("slip 0, 1 as told", x.times(0), Edges.set(2, 3));
        Due.due("slip 1, 0 as told", x.times(1), Edges.set(8, 9));
        Due.due("slip 0 is as it was", x.ofSlip(0, 0), 3);
        Due.due("slip 1 is as it was", x.ofSlip(1, 0), 9);
        Due.due("and is minded so", x.bears(0, 0, 5), 0);
        Due.due("and is minded so", x.bears(0, 0, 6), 1);
    }

    @Sentence("TIMES, as a set. UNKNOWN.")
    static void p19_noSuchSlip() {
        ChairGrudge x = Due.inHall("z1,c09");
        Due.due("no slip 0 yet", x.times(0), UNKNOWN);
        for (int s = 0; s < 8; s++) {
            x.slip(s, 0, 0);
        }
        Due.due("the last slip", x.times(7), ALL_TIMES);
        for (int s : Edges.beyond(8)) {
            Due.due("slip " + s, x.times(s), UNKNOWN);
        }
        x.unsay(1);
        Due.due("it was none", x.times(7), UNKNOWN);
        Due.due("without a hall", new ChairGrudge().times(0), UNKNOWN);
    }

    @Sentence("they change nothing")
    static void p19_refusedChangesNothing() {
        Twins.unchanged("slip", UNKNOWN, x -> x.times(8));
        Twins.unchangedWithoutHall("slip", UNKNOWN, x -> x.times(0));
    }

    // ---- 20 grudges

    @Sentence("GRUDGES of a CHAIR: 0 .. 9, as a set")
    static void p20_allTen() {
        ChairGrudge x = Due.inHall("z1,c05,b09,t00");
        for (int c = 0; c < 3; c++) {
            Due.due("without readings", x.grudges(c), ALL_GRUDGES);
        }
    }

    @Sentence("GRUDGES of a CHAIR: 0 .. 9, as a set")
    static void p20_zeroOrNineAlone() {
        ChairGrudge x = Due.inHall("z1,c05");
        x.slip(0, 0, 0);
        x.reading(1, 0, 0, true);
        Due.due("0", x.grudges(0), Edges.set(0));
        x.back(1);
        x.reading(9, 0, 0, false);
        Due.due("9", x.grudges(0), Edges.set(9));
        x.back(1);
        x.reading(10, 0, 0, false);
        Due.due("none", x.grudges(0), 0);
        x.back(1);
        for (int ago = 1; ago <= 8; ago++) {
            x.reading(ago, 0, 0, false);
            x.reading(ago + 1, 0, 0, true);
            Due.due("just " + ago, x.grudges(0), Edges.set(ago));
            x.back(2);
        }
    }

    @Sentence("A THRONE BEARS as a CHAIR, but with a GRUDGE twice as long.")
    static void p20_aThronesHalf() {
        ChairGrudge x = Due.inHall("z1,t05");
        x.slip(0, 0, 0);
        x.reading(18, 0, 0, false);
        Due.due("18 dinners", x.grudges(0), Edges.set(9));
        x.back(1);
        x.reading(17, 0, 0, false);
        Due.due("17 dinners", x.grudges(0), Edges.set(9));
        x.back(1);
        x.reading(16, 0, 0, false);
        Due.due("16 dinners", x.grudges(0), Edges.set(8, 9));
        x.back(1);
        x.reading(19, 0, 0, false);
        Due.due("19 dinners", x.grudges(0), 0);
        x.back(1);
        x.reading(2, 0, 0, false);
        x.reading(3, 0, 0, true);
        Due.due("2, not 3 dinners", x.grudges(0), Edges.set(1));
    }

    @Sentence("in place of what it is alone, by which all READINGS are so")
    static void p20_inPlaceOfWhatItIsAlone() {
        ChairGrudge x = Due.inHall("z1,b12,b15");
        x.slip(0, 0, 0);
        x.reading(4, 0, 0, false);
        Due.due("the other bench minds so in any case", x.grudges(0), ALL_GRUDGES);
        Due.due("the first bench does not", x.grudges(1), ALL_GRUDGES - 15);
        Due.due("bench 0 is as it was", x.ofChair(0, 2), 2);
        Due.due("bench 1 is as it was", x.ofChair(1, 2), 5);
        Due.due("and minds so", x.bears(0, 0, 5), 0);
        Due.due("and minds so", x.bears(0, 0, 6), 1);
    }

    @Sentence("GRUDGES, as a set. UNKNOWN.")
    static void p20_noSuchChair() {
        ChairGrudge x = Due.inHall("z5,c05,b09");
        Due.due("the last chair", x.grudges(1), ALL_GRUDGES);
        for (int c : Edges.beyond(2)) {
            Due.due("chair " + c, x.grudges(c), UNKNOWN);
        }
        Due.due("without a hall", new ChairGrudge().grudges(0), UNKNOWN);
    }

    @Sentence("they change nothing")
    static void p20_refusedChangesNothing() {
        Twins.unchanged("chair", UNKNOWN, x -> x.grudges(3));
        Twins.unchangedWithoutHall("chair", UNKNOWN, x -> x.grudges(0));
    }

    // ---- 21 ears

    @Sentence("EARS of a CHAIR: 0 .. 4, as a set")
    static void p21_allFive() {
        ChairGrudge x = Due.inHall("z1,c05,b49,t20");
        for (int c = 0; c < 3; c++) {
            Due.due("without readings", x.ears(c), ALL_EARS);
        }
        x.slip(0, 0, 0);
        x.reading(1, 0, 0, false);
        Due.due("by itself, too, without ears", x.ears(0), ALL_EARS);
    }

    @Sentence("EARS of a CHAIR: 0 .. 4, as a set")
    static void p21_asFarAsItMustHear() {
        for (int on = 1; on < 5; on++) {
            ChairGrudge x = Due.inHall("z1,c29,c29,c29,c29,c29");
            x.slip(0, 0, on);
            x.reading(1, 0, 0, false);
            Due.due("it heard " + on + " off", x.ears(0), ALL_EARS & -1 << on);
            x.back(1);
            x.reading(1, 0, 0, true);
            Due.due("it did not hear " + on + " off", x.ears(0), (1 << on) - 1);
        }
        for (int on = 0; on < 4; on++) {
            ChairGrudge x = Due.inHall("z1,c29,c29,c29,c29,c29");
            x.slip(0, 0, on);
            x.reading(1, 4, 0, false);
            Due.due("it heard " + on + " from behind", x.ears(4), ALL_EARS & -1 << 4 - on);
        }
    }

    @Sentence("(by numbers; by itself, too)")
    static void p21_noneIfItBoreInSpiteOfItsOwn() {
        ChairGrudge x = Due.inHall("z1,c29");
        x.slip(0, 0, 0);
        x.reading(1, 0, 0, true);
        Due.due("none", x.ears(0), 0);
    }

    @Sentence("in place of what it is alone, by which all READINGS are so")
    static void p21_inPlaceOfWhatItIsAlone() {
        ChairGrudge x = Due.inHall("z1,b09,c09,b29");
        x.slip(0, 0, 1);
        x.reading(1, 0, 0, false);
        Due.due("the other bench hears so in any case", x.ears(0), ALL_EARS);
        Due.due("the first bench does not", x.ears(2), ALL_EARS - 1);
        Due.due("bench 0 is as it was", x.ofChair(0, 1), 0);
        Due.due("bench 2 is as it was", x.ofChair(2, 1), 2);
        x.unsay(1);
        x.slip(0, 0, 0);
        Due.due("and hears so", x.bears(2, 0, 1), 0);
    }

    @Sentence("EARS, as a set. UNKNOWN.")
    static void p21_noSuchChair() {
        ChairGrudge x = Due.inHall("z5,c05,b09");
        Due.due("the last chair", x.ears(1), ALL_EARS);
        for (int c : Edges.beyond(2)) {
            Due.due("chair " + c, x.ears(c), UNKNOWN);
        }
        Due.due("without a hall", new ChairGrudge().ears(0), UNKNOWN);
    }

    @Sentence("they change nothing")
    static void p21_refusedChangesNothing() {
        Twins.unchanged("chair", UNKNOWN, x -> x.ears(3));
        Twins.unchangedWithoutHall("chair", UNKNOWN, x -> x.ears(0));
    }

    // ---- 22 kinds

    @Sentence("KINDS of a CHAIR: 0 .. 2, as a set")
    static void p22_allThree() {
        ChairGrudge x = Due.inHall("z1,c05,b49,t20");
        for (int c = 0; c < 3; c++) {
            Due.due("without readings", x.kinds(c), ALL_KINDS);
        }
    }

    @Sentence("KINDS of a CHAIR: 0 .. 2, as a set")
    static void p22_eachAlone() {
        ChairGrudge x = Due.inHall("z2,t02,b05");
        x.slip(0, 0, 0);
        x.slip(0, 0, 1);
        x.reading(3, 0, 0, true);
        Due.due("a chair: no bench, no longer grudge", x.kinds(0), Edges.set(0));
        x.back(1);
        x.reading(5, 0, 0, false);
        Due.due("a bench: by the other bench", x.kinds(0), Edges.set(1));
        x.back(1);
        x.unsay(1);
        x.reading(4, 0, 0, false);
        x.reading(4, 1, 0, true);
        Due.due("a throne: by its grudge", x.kinds(0), Edges.set(2));
        x.reading(5, 0, 0, false);
        Due.due("none", x.kinds(0), 0);
    }

    @Sentence({"A BENCH BEARS those whom no BENCH (of all CHAIRS of kind 1, itself, too) MINDS.",
        "in place of what it is alone, by which all READINGS are so"})
    static void p22_whatItBringsToTheBenches() {
        ChairGrudge x = Due.inHall("z1,c09,b09");
        x.slip(0, 0, 0);
        x.reading(1, 1, 0, false);
        Due.due("as a bench it minds for the other", x.kinds(0), Edges.set(1));
        Due.due("the other heard nothing", x.kinds(1), 0);
        x.back(1);
        x.reading(1, 1, 0, true);
        Due.due("or it is none", x.kinds(0), Edges.set(0, 2));
        Due.due("it is as it was", x.ofChair(0, 0), 0);
        Due.due("and bears so", x.bears(1, 0, 1), 1);
    }

    @Sentence("KINDS, as a set. UNKNOWN.")
    static void p22_noSuchChair() {
        ChairGrudge x = Due.inHall("z5,c05,b09");
        Due.due("the last chair", x.kinds(1), ALL_KINDS);
        for (int c : Edges.beyond(2)) {
            Due.due("chair " + c, x.kinds(c), UNKNOWN);
        }
        Due.due("without a hall", new ChairGrudge().kinds(0), UNKNOWN);
    }

    @Sentence("they change nothing")
    static void p22_refusedChangesNothing() {
        Twins.unchanged("chair", UNKNOWN, x -> x.kinds(3));
        Twins.unchangedWithoutHall("chair", UNKNOWN, x -> x.kinds(0));
    }

    // ---- 23 odds

    private static void share(String what, ChairGrudge x, int dinner, long upper, long lower) {
        Due.due(what + ", upper", x.odds(dinner, 0), upper);
        Due.due(what + ", lower", x.odds(dinner, 1), lower);
    }

    @Sentence("Shares are told as upper and lower number (above 0) in least terms.")
    static void p23_noneAndAll() {
        ChairGrudge x = Due.inHall("z1,c01");
        share("all of the one set of no slips", x, 0, 1, 1);
        ChairGrudge y = Due.inHall("z2,c01");
        share("none of the one set of no slips", y, 0, 0, 1);
        for (int k = 0; k < 8; k++) {
            x.slip(5, 0, 0);
            y.slip(5, 0, 0);
        }
        share("all of 256", x, 5, 1, 1);
        share("all of 256", x, 7, 1, 1);
        share("none of 256", y, 6, 0, 1);
    }

    @Sentence("(above 0) in least terms")
    static void p23_leastTerms() {
        ChairGrudge x = Due.inHall("z1,c09");
        for (int k = 1; k <= 8; k++) {
            x.slip(0, 0, 0);
            share("but for the one set of none", x, 1, 1, 1 << k);
        }
        ChairGrudge y = Due.inHall("z2,c09,c09,c09,c09,c09");
        for (int k = 0; k < 8; k++) {
            share("all", y, 1, 1, 1);
            y.slip(0, k % 2, k / 2);
        }
        share("but for the one set of all", y, 1, 255, 256);
        ChairGrudge z = Due.inHall("z1,c01");
        z.slip(0, 0, 0);
        for (int k = 0; k < 7; k++) {
            z.slip(9, 0, 0);
        }
        share("128 of 256", z, 1, 1, 2);
    }

    @Sentence("ODDS of a DINNER: if each SLIP was made, or was not, all such sets alike:"
        + " the share of those by which all can sit")
    static void p23_allSetsAlike() {
        ChairGrudge x = Due.inHall("z2,c09,c09");
        x.slip(0, 0, 0);
        x.slip(0, 0, 1);
        share("not both", x, 1, 3, 4);
        x.slip(0, 0, 1);
        share("the same again is another slip", x, 1, 5, 8);
        x.slip(0, 1, 0);
        // guest 0 has chair 0 (4 of 8), or 1 alone (1 of 8), each with or without the slip of guest 1:
        // with it guest 1 has chair 1 alone, so guest 0 must have chair 0
        share("as others sit", x, 1, 9, 16);
    }

    @Sentence("all his SLIPS up to that DINNER (in it, too) are FORGIVEN by that CHAIR in later DINNERS")
    static void p23_byButter() {
        ChairGrudge x = Due.inHall("z1,c09");
        x.slip(0, 0, 0);
        x.butter(1, 0, 0);
        share("in the butter's dinner", x, 1, 1, 2);
        share("in later ones", x, 2, 1, 1);
        x.reading(1, 0, 0, false);
        share("readings do not count", x, 1, 1, 2);
    }

    @Sentence("ODDS (which 0 the upper, 1 the lower number). LOST: OUTSIDE; STATE: there is no HALL.")
    static void p23_refusals() {
        ChairGrudge x = Due.inHall("z1,c09");
        Due.due("the last dinner", x.odds(19, 1), 1);
        for (int dinner : Edges.beyond(20)) {
            Due.due("dinner " + dinner, x.odds(dinner, 0), LOST);
            Due.due("dinner " + dinner, x.odds(dinner, 1), LOST);
        }
        for (int which : Edges.beyond(2)) {
            Due.due("which " + which, x.odds(0, which), LOST);
        }
        Due.due("no hall", new ChairGrudge().odds(0, 0), LOST);
        Due.due("no hall", new ChairGrudge().odds(19, 1), LOST);
    }

    @Sentence("they change nothing")
    static void p23_refusedChangesNothing() {
        Twins.unchanged("dinner", LOST, x -> x.odds(20, 0));
        Twins.unchanged("which", LOST, x -> x.odds(0, 2));
        Twins.unchangedWithoutHall("state", LOST, x -> x.odds(0, 0));
    }
}

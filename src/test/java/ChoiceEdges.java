/** The boundary sentences of promises 19 and 20: best, found. */
public final class ChoiceEdges extends Sentences {
    /** A beam into port 11 is halved; by door 1 and by door 0 a quarter each comes out at port 2. */
    private static final String TWO_WAYS = "r/xf;r...;rfx/;";
    /** Only the last cell is FREE; a beam into port 4 comes down to it through doors. */
    private static final String LAST_FREE = "r####o;r####o;r####o;r####.;";

    private static MirrorShares changed() {
        MirrorShares x = laid(TWO_WAYS);
        x.put(4, WALL);
        x.turn();
        x.door(0, 1);
        return told(x, "r##;");
    }

    private static void best(MirrorShares x, int p, int q, int set, int above, int below) {
        due("best(" + p + ", " + q + ", 0)", x.best(p, q, 0), set);
        due("best(" + p + ", " + q + ", 1)", x.best(p, q, 1), above);
        due("best(" + p + ", " + q + ", 2)", x.best(p, q, 2), below);
    }

    // ---- 19 best

    private static void bestOfNoDoors() {
        MirrorShares x = laid("rf.;");
        best(x, 5, 2, 0, 1, 2);
        best(x, 0, 3, 0, 1, 2);
        best(x, 1, 4, 0, 1, 1);
        best(x, 5, 5, 0, 0, 1);
    }

    private static void bestOfOneDoor() {
        best(laid("rx.;"), 5, 2, 1, 1, 1);
        best(laid("ro.;"), 5, 2, 1, 1, 1);
    }

    private static void bestOfAllFour() {
        best(laid("rxxxx.;"), 11, 5, 15, 1, 1);
        best(laid("roooo.;"), 11, 5, 15, 1, 1);
        best(laid("roxox;"), 4, 9, 15, 1, 1);
    }

    private static void bestOfEachAlone() {
        MirrorShares x = laid("rx...;r.x..;r..x.;r...x;");
        for (int d = 0; d < 4; d++) {
            best(x, d, 8 + d, 1 << d, 1, 1);
            best(x, 4 + d, 12 + d, 1 << d, 1, 1);
        }
    }

    private static void bestIsMost() {
        best(laid(TWO_WAYS), 11, 2, 3, 1, 2);
        best(laid("r/of;r...;rf#/;"), 11, 2, 1, 1, 4);
    }

    private static void bestOfFewest() {
        best(laid("rooo;r...;"), 9, 4, 0, 1, 1);
        best(laid("rooo;r..o;"), 9, 4, 8, 1, 1);
        best(laid("rox;r.x;"), 0, 4, 1, 1, 1);
    }

    private static void bestOfNothing() {
        best(laid("roooo;"), 0, 4, 0, 0, 1);
        best(laid("rxo#;"), 7, 3, 0, 0, 1);
        best(laid("roo;"), 0, 0, 0, 0, 1);
    }

    private static void bestHoweverTheDoorsAre() {
        for (int set = 0; set < 4; set++) {
            MirrorShares x = laid(TWO_WAYS);
            x.door(0, set & 1);
            x.door(1, set >> 1);
            best(x, 11, 2, 3, 1, 2);
            best(x, 11, 11, 0, 0, 1);
        }
    }

    private static void bestInLowestTerms() {
        best(laid("r/x\\;r...;rf./;"), 11, 11, 1, 1, 2);
        best(laid("r/x\\;r...;rf./;"), 11, 6, 1, 1, 2);
    }

    private static void bestBehindATurn() {
        MirrorShares x = laid("r.x;ro.;");
        best(x, 7, 3, 2, 1, 1);
        x.turn();
        best(x, 0, 4, 1, 1, 1);
    }

    // ---- 20 found

    private static void found(MirrorShares x, int[] told, int many, int first) {
        String call = "found(" + told[0] + ", " + told[1] + ", " + told[2] + ", " + told[3] + ", ";
        due(call + "0)", x.found(told[0], told[1], told[2], told[3], 0), many);
        due(call + "1)", x.found(told[0], told[1], told[2], told[3], 1), first);
    }

    private static void foundAboveAtItsEnds() {
        MirrorShares x = laid("r..;");
        found(x, new int[] {5, 0, 0, 1}, 3, 1);
        found(x, new int[] {5, 0, 1000, 1000}, 1, 0);
        found(x, new int[] {5, 0, 1000, 1}, 0, NONE);
    }

    private static void foundBelowAtItsEnds() {
        MirrorShares x = laid("r..;");
        found(x, new int[] {5, 0, 1, 1}, 1, 0);
        found(x, new int[] {5, 0, 0, 1000}, 3, 1);
        found(x, new int[] {5, 0, 1, 1000}, 0, NONE);
        found(x, new int[] {5, 0, 999, 1000}, 0, NONE);
    }

    private static void foundOfAnyTerms() {
        MirrorShares x = laid("rf.;");
        found(x, new int[] {5, 1, 1, 2}, 1, 2);
        found(x, new int[] {5, 1, 2, 4}, 1, 2);
        found(x, new int[] {5, 1, 500, 1000}, 1, 2);
        found(x, new int[] {5, 1, 499, 998}, 1, 2);
        found(x, new int[] {5, 1, 499, 1000}, 0, NONE);
        found(x, new int[] {5, 1, 500, 999}, 0, NONE);
    }

    private static void foundZeroByAny() {
        MirrorShares x = laid("r..;");
        for (int b : new int[] {1, 2, 7, 999, 1000}) {
            found(x, new int[] {5, 2, 0, b}, 4, 0);
        }
    }

    private static void foundMoreThanOne() {
        MirrorShares x = laid(freeRoom(2, 2));
        found(x, new int[] {0, 4, 2, 1}, 0, NONE);
        found(x, new int[] {0, 4, 1000, 999}, 0, NONE);
        found(x, new int[] {0, 4, 1000, 1}, 0, NONE);
    }

    private static void foundOfNoFreeCells() {
        found(laid("ro#;"), new int[] {0, 3, 1, 1}, 0, NONE);
        found(laid("r/\\;rfb;roo;"), new int[] {0, 0, 0, 1}, 0, NONE);
        found(laid("r#####;r#####;r#####;r#####;"), new int[] {0, 9, 0, 1}, 0, NONE);
    }

    private static void foundInFreeCellsAlone() {
        found(laid("ro.;"), new int[] {1, 5, 1, 1}, 1, 2);
        found(laid("rx.;"), new int[] {1, 5, 0, 1}, 2, 2);
        found(laid("r#.;"), new int[] {0, 3, 0, 1}, 2, 2);
    }

    private static void foundAtTheMost() {
        MirrorShares x = laid(freeRoom(5, 4));
        found(x, new int[] {0, 0, 0, 1}, 40, 0);
        found(x, new int[] {0, 9, 1, 1}, 32, 2);
    }

    private static void foundFirstOfAll() {
        found(laid("r..;"), new int[] {0, 5, 1, 1}, 1, 0);
        found(laid("r..;"), new int[] {3, 5, 1, 1}, 1, 1);
    }

    private static void foundLastOfAll() {
        MirrorShares x = laid(LAST_FREE);
        found(x, new int[] {4, 8, 1, 1}, 1, 39);
        found(x, new int[] {13, 8, 1, 1}, 1, 38);
    }

    private static void foundByTheCellThenSlash() {
        MirrorShares x = laid(freeRoom(3, 2));
        found(x, new int[] {8, 3, 0, 1}, 6, 0);
        found(x, new int[] {8, 3, 1, 1}, 6, 6);
        found(x, new int[] {2, 7, 1, 1}, 8, 0);
    }

    private static void mirrorsAreNeverTooMany() {
        MirrorShares x = laid("rfbfbf;roxox.;");
        found(x, new int[] {6, 11, 1, 1}, 1, 18);
        found(x, new int[] {6, 6, 0, 1}, 2, 18);
    }

    private static void foundOfLargeBelow() {
        found(laid("rffb.;rbf./;"), new int[] {4, 0, 33, 961}, 1, 12);
    }

    private static void foundBadAheadOfNone() {
        MirrorShares x = laid("r##;");
        due("nothing is found", x.found(0, 3, 1, 1, 1), NONE);
        due("found(6, 3, 1, 1, 1)", x.found(6, 3, 1, 1, 1), BAD);
        due("found(0, 6, 1, 1, 1)", x.found(0, 6, 1, 1, 1), BAD);
        due("found(0, 3, 1001, 1, 1)", x.found(0, 3, 1001, 1, 1), BAD);
        due("found(0, 3, 1, 0, 1)", x.found(0, 3, 1, 0, 1), BAD);
        due("found(0, 3, 1, 1, 2)", x.found(0, 3, 1, 1, 2), BAD);
    }

    /** What is only tried (a text, a mirror more, other doors, a kind too many) is not seen by what is asked next. */
    private static void triesLeaveNoTrace() {
        MirrorShares x = told(laid(TWO_WAYS), "r###;");
        due("fault() of another text", x.fault(), NONE);
        best(x, 11, 2, 3, 1, 2);
        due("lay() of a fault", told(x, "q").lay(), NO);
        best(x, 11, 2, 3, 1, 2);
        found(x, new int[] {1, 7, 0, 1}, 6, 6);
        best(x, 11, 2, 3, 1, 2);
        found(x, new int[] {1, 7, 0, 1}, 6, 6);
        share(x, 11, 2, 0, 1);
        due("put(3, 0)", x.put(3, FREE), NO);
        due("put(8, 0)", x.put(8, FREE), SLASH);
        best(x, 11, 2, 1, 1, 4);
        due("undo()", x.undo(), 0);
        best(x, 11, 2, 3, 1, 2);
    }

    private static void refusedKindsLeaveNoTrace() {
        MirrorShares x = laid("rfbfbf;rxxxx.;");
        due("put(9, 3)", x.put(9, HALF_SLASH), FULL);
        best(x, 13, 6, 15, 1, 1);
        due("put(9, 7)", x.put(9, SHUT), FULL);
        best(x, 13, 6, 15, 1, 1);
        found(x, new int[] {6, 11, 1, 1}, 1, 18);
        best(x, 13, 6, 15, 1, 1);
    }

    public static void main(String[] args) {
        portsLimits("19 the set,", (x, p, q) -> x.best(p, q, 0));
        portsLimits("19 above,", (x, p, q) -> x.best(p, q, 1));
        portsLimits("19 below,", (x, p, q) -> x.best(p, q, 2));
        limits("19 what (0 to 2)", TWO_WAYS, 0, 2, (x, what) -> x.best(11, 2, what));
        holds("19 BEST without DOORS: the empty set", ChoiceEdges::bestOfNoDoors);
        holds("19 BEST of one DOOR", ChoiceEdges::bestOfOneDoor);
        holds("19 BEST of all 4 DOORS", ChoiceEdges::bestOfAllFour);
        holds("19 the set of DOORS (bits): each alone", ChoiceEdges::bestOfEachAlone);
        holds("19 by which SHARE of the two is most", ChoiceEdges::bestIsMost);
        holds("19 of several of fewest OPEN ones", ChoiceEdges::bestOfFewest);
        holds("19 SHARE 0 by all sets: the empty one, of least bits", ChoiceEdges::bestOfNothing);
        holds("19 however the DOORS are", ChoiceEdges::bestHoweverTheDoorsAre);
        holds("19 SHARE then in lowest terms, of the same PORT too", ChoiceEdges::bestInLowestTerms);
        holds("19 DOORS such as there are, THE ROOM TURNED", ChoiceEdges::bestBehindATurn);
        unchanged("19 BEST is told", ChoiceEdges::changed, x -> x.best(0, 7, 0), 0);
        unchanged("19 BEST of other DOORS is told", () -> laid(TWO_WAYS), x -> x.best(11, 2, 0), 3);
        unchanged("19 BAD: a PORT", ChoiceEdges::changed, x -> x.best(14, 0, 0), BAD);
        unchanged("19 BAD: what", ChoiceEdges::changed, x -> x.best(0, 0, 3), BAD);

        portsLimits("20 how many,", (x, p, q) -> x.found(p, q, 0, 1, 0));
        portsLimits("20 the first,", (x, p, q) -> x.found(p, q, 0, 1, 1));
        limits("20 what (0, 1)", "r..;", 0, 1, (x, what) -> x.found(5, 0, 1, 1, what));
        limits("20 how many, a (0 to 1000)", "r..;", 0, 1000, (x, a) -> x.found(5, 0, a, 1, 0));
        limits("20 the first, a (0 to 1000)", "r..;", 0, 1000, (x, a) -> x.found(5, 0, a, 1, 1));
        holds("20 a 0 to 1000: 0 and 1000", ChoiceEdges::foundAboveAtItsEnds);
        limits("20 how many, b (1 to 1000)", "r..;", 1, 1000, (x, b) -> x.found(5, 0, 1, b, 0));
        limits("20 the first, b (1 to 1000)", "r..;", 1, 1000, (x, b) -> x.found(5, 0, 1, b, 1));
        limits("20 0 by b (1 to 1000)", "r..;", 1, 1000, (x, b) -> x.found(5, 0, 0, b, 0));
        holds("20 b 1 to 1000: 1 and 1000", ChoiceEdges::foundBelowAtItsEnds);
        holds("20 a by b, in lowest terms or not", ChoiceEdges::foundOfAnyTerms);
        holds("20 0 by any b", ChoiceEdges::foundZeroByAny);
        holds("20 a by b of more than 1: none", ChoiceEdges::foundMoreThanOne);
        holds("20 no FREE CELLS: 0, NONE", ChoiceEdges::foundOfNoFreeCells);
        holds("20 of FREE CELLS alone, not of OPEN ones", ChoiceEdges::foundInFreeCellsAlone);
        holds("20 how many: all of the largest room", ChoiceEdges::foundAtTheMost);
        holds("20 the first: 0 and 1", ChoiceEdges::foundFirstOfAll);
        holds("20 the first: 38 and 39", ChoiceEdges::foundLastOfAll);
        holds("20 the first by the CELL, / ahead of \\", ChoiceEdges::foundByTheCellThenSlash);
        holds("20 in a room of 5 HALF ones and 4 doors", ChoiceEdges::mirrorsAreNeverTooMany);
        holds("20 a SHARE of a large number below", ChoiceEdges::foundOfLargeBelow);
        holds("20 BAD goes ahead of NONE", ChoiceEdges::foundBadAheadOfNone);
        unchanged("20 how many is told", ChoiceEdges::changed, x -> x.found(0, 0, 0, 1, 0), 4);
        unchanged("20 the first is told", () -> laid("r..;"), x -> x.found(5, 0, 1, 1, 1), 0);
        unchanged("20 NONE", ChoiceEdges::changed, x -> x.found(0, 0, 1, 1, 1), NONE);
        unchanged("20 BAD: a PORT", ChoiceEdges::changed, x -> x.found(14, 0, 1, 1, 1), BAD);
        unchanged("20 BAD: a", ChoiceEdges::changed, x -> x.found(0, 0, 1001, 1, 1), BAD);
        unchanged("20 BAD: b", ChoiceEdges::changed, x -> x.found(0, 0, 1, 0, 1), BAD);
        unchanged("20 BAD: what", ChoiceEdges::changed, x -> x.found(0, 0, 1, 1, 2), BAD);

        holds("19, 20 what is only tried leaves no trace", ChoiceEdges::triesLeaveNoTrace);
        holds("19, 20 what is refused leaves no trace", ChoiceEdges::refusedKindsLeaveNoTrace);
        end();
    }
}

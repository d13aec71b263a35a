/** The boundary sentences of promises 13 to 18: share, lost, bits, lit, far, alike. */
public final class ShareEdges extends Sentences {
    private static final int UP = 0, RIGHT = 1, DOWN = 2, LEFT = 3;
    /** In a room of 3 by 3, by a beam's direction: the port where it goes out of the middle, and where it came in. */
    private static final int[] MIDDLE_OUT = {1, 4, 7, 10};
    private static final int[] MIDDLE_IN = {7, 10, 1, 4};
    private static final int[] BY_SLASH = {RIGHT, UP, LEFT, DOWN};
    private static final int[] BY_BACKSLASH = {LEFT, DOWN, RIGHT, UP};

    private static final String WALLS = "r#####;r#####;r#####;r#####;";
    /** A beam into port 14 goes through all 20 cells, row by row, out at port 17. */
    private static final String SNAKE = "r....\\;r/.../;r\\...\\;r..../;";
    /** A ring with a HALF one at port 7: a beam goes round both ways, of each a quarter comes back, a quarter down. */
    private static final String BOTH_WAYS = "r/\\;rf/;";
    /** Shares of the largest number below that was found. */
    private static final String LARGE_BELOW = "rffb.;rbf//;";
    /** The least share that was found: from port 2 to port 1. */
    private static final String LEAST_SHARE = "rf\\bfb;rb\\../;r\\/.\\.;";
    private static final String[] ROOMS = {"r..;", BOTH_WAYS, LARGE_BELOW, LEAST_SHARE, WALLS, SNAKE,
        "r.f/.;rb.xf;r\\f.\\;", "r\\/b.\\;rf/f\\#;rbb/#/;r#\\\\/\\;", "rf\\;r\\f;", "r..##.;rfff#.;"};

    private static MirrorShares changed() {
        return changed("r##;");
    }

    // ---- 2 what KINDS do

    private static MirrorShares middle(int kind) {
        return laid("r...;r." + LETTERS.charAt(kind) + ".;r...;");
    }

    /** From the side where a beam of the direction comes in: halves at two ports (or a whole, if they are one). */
    private static void goesOut(MirrorShares x, int direction, int one, int other) {
        for (int q = 0; q < 12; q++) {
            boolean there = q == MIDDLE_OUT[one] || q == MIDDLE_OUT[other];
            share(x, MIDDLE_IN[direction], q, there ? 1 : 0, there && one != other ? 2 : 1);
        }
        lost(x, MIDDLE_IN[direction], 0, 1);
    }

    private static void lost(MirrorShares x, int p, int above, int below) {
        due("lost(" + p + ", 0)", x.lost(p, 0), above);
        due("lost(" + p + ", 1)", x.lost(p, 1), below);
        due("lost(" + p + ", 2)", x.lost(p, 2), 0);
        due("lost(" + p + ", 3)", x.lost(p, 3), 1);
    }

    private static void goesOn() {
        for (int kind : new int[] {FREE, OPEN}) {
            for (int direction = 0; direction < 4; direction++) {
                goesOut(middle(kind), direction, direction, direction);
            }
        }
    }

    private static void isSwallowed() {
        for (int kind : new int[] {WALL, SHUT}) {
            MirrorShares x = middle(kind);
            for (int direction = 0; direction < 4; direction++) {
                for (int q = 0; q < 12; q++) {
                    share(x, MIDDLE_IN[direction], q, 0, 1);
                }
                lost(x, MIDDLE_IN[direction], 1, 1);
            }
        }
    }

    private static void isTurned() {
        for (int direction = 0; direction < 4; direction++) {
            goesOut(middle(SLASH), direction, BY_SLASH[direction], BY_SLASH[direction]);
            goesOut(middle(BACKSLASH), direction, BY_BACKSLASH[direction], BY_BACKSLASH[direction]);
        }
    }

    private static void isHalved() {
        for (int direction = 0; direction < 4; direction++) {
            goesOut(middle(HALF_SLASH), direction, direction, BY_SLASH[direction]);
            goesOut(middle(HALF_BACKSLASH), direction, direction, BY_BACKSLASH[direction]);
        }
    }

    // ---- 13 share

    private static void shareOfFirstAndLastPort() {
        MirrorShares small = laid("r..;");
        share(small, 0, 3, 1, 1);
        share(small, 5, 2, 1, 1);
        share(small, 2, 5, 1, 1);
        share(small, 0, 5, 0, 1);
        MirrorShares large = laid(freeRoom(5, 4));
        share(large, 0, 9, 1, 1);
        share(large, 9, 0, 1, 1);
        share(large, 17, 8, 1, 1);
        share(large, 8, 17, 1, 1);
        share(large, 0, 17, 0, 1);
    }

    private static void shareOfNothing() {
        share(laid("r..;"), 0, 1, 0, 1);
        share(laid("rf.;"), 0, 4, 0, 1);
        share(laid("rf#;"), 5, 2, 0, 1);
        share(laid(LARGE_BELOW), 3, 3, 0, 1);
    }

    private static void shareOfAll() {
        share(laid("r..;"), 5, 2, 1, 1);
        share(laid("rf\\;r\\/;"), 0, 6, 1, 1);
        share(laid(SNAKE), 14, 17, 1, 1);
    }

    private static void shareOfTheSamePort() {
        share(laid(BOTH_WAYS), 7, 7, 1, 2);
        share(laid(LARGE_BELOW), 0, 0, 8, 961);
        share(laid("r/.;"), 0, 0, 0, 1);
    }

    private static void shareInLowestTerms() {
        share(laid(BOTH_WAYS), 7, 4, 1, 2);
        share(laid("r/.f;r...;rf./;"), 11, 2, 1, 2);
        share(laid("r/.f;r...;rf./;"), 11, 3, 1, 2);
    }

    private static void shareOfLoops() {
        MirrorShares x = laid("rf\\;r\\f;");
        share(x, 0, 6, 2, 3);
        share(x, 0, 3, 1, 3);
        share(laid(LARGE_BELOW), 4, 0, 33, 961);
    }

    private static void shareAtTheLeast() {
        share(laid(LEAST_SHARE), 2, 1, 1, 512);
    }

    private static void sharesMakeOne() {
        for (String text : ROOMS) {
            for (int p = 0; p < laid(text).count(7); p++) {
                due("all of a beam into " + p + " of " + text, allOf(laid(text), p), "0");
            }
        }
    }

    /** 1 less all that goes out, is swallowed and is caught, as a fraction's number above. */
    private static String allOf(MirrorShares x, int p) {
        long above = 1;
        long below = 1;
        int ports = x.count(7);
        for (int i = 0; i < ports + 2; i++) {
            long a = i < ports ? x.share(p, i, 0) : x.lost(p, 2 * (i - ports));
            long b = i < ports ? x.share(p, i, 1) : x.lost(p, 2 * (i - ports) + 1);
            above = above * b - a * below;
            below = below * b;
            long divisor = gcd(Math.abs(above), below);
            above /= divisor;
            below /= divisor;
        }
        return Long.toString(above);
    }

    private static long gcd(long a, long b) {
        return b == 0 ? a : gcd(b, a % b);
    }

    private static void alwaysLowest() {
        for (String text : ROOMS) {
            MirrorShares x = laid(text);
            int ports = x.count(7);
            for (int q = 0; q < ports; q++) {
                due("divisor of share(0, " + q + ") of " + text, (int) gcd(x.share(0, q, 0), x.share(0, q, 1)), 1);
                due("divisor of lost(" + q + ") of " + text, (int) gcd(x.lost(q, 0), x.lost(q, 1)), 1);
            }
        }
    }

    // ---- 14 lost

    private static void lostNothing() {
        MirrorShares x = laid("r./;r\\f;rb.;");
        for (int p = 0; p < 10; p++) {
            lost(x, p, 0, 1);
        }
    }

    private static void lostAll() {
        MirrorShares walls = laid(WALLS);
        for (int p = 0; p < 18; p++) {
            lost(walls, p, 1, 1);
        }
        MirrorShares shut = laid("rxx;rxx;");
        for (int p = 0; p < 8; p++) {
            lost(shut, p, 1, 1);
        }
    }

    private static void lostInLowestTerms() {
        lost(laid("r..##.;rfff#.;"), 13, 1, 4);
        lost(laid("r##;rff;"), 7, 3, 4);
        lost(laid("rf#;"), 5, 1, 2);
    }

    private static void lostOfLoops() {
        MirrorShares x = laid("rf\\.;r\\f#;");
        lost(x, 0, 1, 3);
        share(x, 0, 8, 2, 3);
        lost(laid("r\\/b.\\;rf/f\\#;rbb/#/;r#\\\\/\\;"), 11, 359, 961);
    }

    private static void noneIsCaught() {
        for (String text : ROOMS) {
            MirrorShares x = laid(text);
            for (int p = 0; p < x.count(7); p++) {
                due("lost(" + p + ", 2) of " + text, x.lost(p, 2), 0);
                due("lost(" + p + ", 3) of " + text, x.lost(p, 3), 1);
            }
        }
    }

    /** A ring of four mirrors, and one with a HALF one in it: no beam of a port comes into what feeds itself alone. */
    private static void closedRings() {
        MirrorShares ring = laid("r/\\;r\\/;");
        MirrorShares half = laid("r/\\.;r\\f\\;r.\\/;");
        for (int p = 0; p < 8; p++) {
            lost(ring, p, 0, 1);
            due("lit(" + p + ")", Integer.bitCount(ring.lit(p)), 1);
        }
        for (int p = 0; p < 12; p++) {
            lost(half, p, 0, 1);
            due("lit(" + p + ")", half.lit(p) & 1 << 4, 0);
        }
    }

    private static void lostAtADoor() {
        MirrorShares x = laid("rox;");
        lost(x, 5, 1, 1);
        due("door(1, 1)", x.door(1, 1), 2);
        lost(x, 5, 0, 1);
        due("door(0, 0)", x.door(0, 0), 1);
        lost(x, 5, 1, 1);
    }

    // ---- 15 bits

    private static void bitsOfNothing() {
        due("bits(0, 1)", laid("r..;").bits(0, 1), 0);
        due("bits(0, 9)", laid(WALLS).bits(0, 9), 0);
    }

    private static void bitsOfAll() {
        due("bits(0, 3)", laid("r..;").bits(0, 3), 0x3f800000);
        due("bits(14, 17)", laid(SNAKE).bits(14, 17), 0x3f800000);
    }

    private static void bitsOfHalves() {
        due("bits(5, 0)", laid("rf.;").bits(5, 0), 0x3f000000);
        due("bits(2, 1)", laid(LEAST_SHARE).bits(2, 1), 0x3b000000);
    }

    private static void bitsRounded() {
        MirrorShares thirds = laid("rf\\;r\\f;");
        due("bits(0, 6)", thirds.bits(0, 6), 0x3f2aaaab);
        due("bits(0, 3)", thirds.bits(0, 3), 0x3eaaaaab);
        MirrorShares large = laid(LARGE_BELOW);
        due("bits(4, 0)", large.bits(4, 0), 0x3d0ca74b);
        due("bits(0, 0)", large.bits(0, 0), 0x3c08642a);
    }

    private static void bitsOfAllShares() {
        for (String text : ROOMS) {
            for (int p = 0; p < laid(text).count(7); p++) {
                MirrorShares x = laid(text);
                for (int q = 0; q < x.count(7); q++) {
                    float quotient = (float) x.share(p, q, 0) / (float) x.share(p, q, 1);
                    due("bits(" + p + ", " + q + ") of " + text, x.bits(p, q), Float.floatToIntBits(quotient));
                }
            }
        }
    }

    // ---- 16 lit

    private static void litAlone() {
        MirrorShares walls = laid(WALLS);
        for (int p = 0; p < 18; p++) {
            due("lit(" + p + ")", walls.lit(p), 1 << walls.port(p, 0));
        }
        due("lit(0), SHUT", laid("rx.;").lit(0), 1);
    }

    private static void litAll() {
        due("lit(14)", laid(SNAKE).lit(14), (1 << 20) - 1);
        due("lit(17)", laid(SNAKE).lit(17), (1 << 20) - 1);
    }

    private static void litUpToAWall() {
        MirrorShares x = laid("r..#..;");
        due("lit(11)", x.lit(11), 0b00111);
        due("lit(5)", x.lit(5), 0b11100);
        due("lit(0)", x.lit(0), 0b00001);
    }

    private static void litBothHalves() {
        MirrorShares x = laid("r...;r.f.;r...;");
        due("lit(10)", x.lit(10), 0b000_111_010);
        due("lit(1)", x.lit(1), 0b010_011_010);
    }

    private static void litTwiceIsOneBit() {
        due("lit(7)", laid(BOTH_WAYS).lit(7), 0b1111);
        due("lit(0)", laid("rf\\;r\\f;").lit(0), 0b1111);
    }

    private static void litFirstAndLastCell() {
        MirrorShares x = laid(freeRoom(5, 4));
        due("lit(13)", x.lit(13), 1 << 19 | 1 << 14 | 1 << 9 | 1 << 4);
        due("lit(14)", x.lit(14), 0b11111);
        due("lit(17)", x.lit(17), 0b11111 << 15);
    }

    // ---- 17 far

    private static void farAtTheLeast() {
        due("far(0, 3)", laid("r..;").far(0, 3), 1);
        due("far(0, 5)", laid("r/.;").far(0, 5), 1);
        due("far(5, 0)", laid("r/.;").far(5, 0), 1);
    }

    private static void farAcross() {
        due("far(5, 2)", laid("r..;").far(5, 2), 2);
        due("far(17, 8)", laid(freeRoom(5, 4)).far(17, 8), 5);
        due("far(0, 9)", laid(freeRoom(5, 4)).far(0, 9), 4);
        due("far(14, 17)", laid(SNAKE).far(14, 17), 20);
    }

    private static void farNone() {
        due("far(0, 1)", laid("r..;").far(0, 1), NONE);
        due("far(0, 0)", laid("r..;").far(0, 0), NONE);
        due("far(5, 2)", laid("r.#;").far(5, 2), NONE);
        due("far(5, 2)", laid("r.x;").far(5, 2), NONE);
        MirrorShares walls = laid(WALLS);
        for (int q = 0; q < 18; q++) {
            due("far(0, " + q + ")", walls.far(0, q), NONE);
        }
    }

    /** From several ports in turn, so that no answer is left over from another. */
    private static void farOnlyWithAShare() {
        for (String text : ROOMS) {
            MirrorShares x = laid(text);
            int ports = x.count(7);
            for (int p : new int[] {0, 1, ports / 2, ports - 1, 0}) {
                for (int q = 0; q < ports; q++) {
                    boolean some = x.share(p, q, 0) > 0;
                    due("there is far(" + p + ", " + q + ") of " + text, x.far(p, q) == NONE ? 0 : 1, some ? 1 : 0);
                }
            }
        }
    }

    private static void farTheFewest() {
        MirrorShares x = laid("rf\\;r\\/;");
        due("far(0, 6), not the 5 of the way round", x.far(0, 6), 1);
        due("far(4, 0), by the shortest of many loops", laid(LARGE_BELOW).far(4, 0), 6);
    }

    private static void farTwiceCountsTwice() {
        due("far(7, 7)", laid(BOTH_WAYS).far(7, 7), 5);
        due("far(7, 4)", laid(BOTH_WAYS).far(7, 4), 5);
        due("far(7, 4)", laid("r/\\;r.f;").far(7, 4), 5);
        due("far(1, 8)", laid("r.b\\;r.\\/;").far(1, 8), 6);
        due("far(1, 1)", laid("r.b\\;r.\\/;").far(1, 1), 5);
    }

    private static void farAtTheMost() {
        due("far(0, 0)", laid("r\\b/fb;rf/f//;r\\\\/.\\;r\\\\/\\/;").far(0, 0), 43);
        due("far(2, 1)", laid(LEAST_SHARE).far(2, 1), 24);
    }

    private static void farBadAheadOfNone() {
        MirrorShares walls = laid(WALLS);
        each("far(p, 0)", p -> walls.far(p, 0), BAD, -1, 18);
        each("far(0, q)", q -> walls.far(0, q), BAD, -1, 18);
    }

    // ---- 18 alike

    private static void alikeToItself() {
        for (String text : ROOMS) {
            MirrorShares x = laid(text);
            for (int p = 0; p < x.count(7); p++) {
                due("alike(" + p + ", " + p + ") of " + text, x.alike(p, p), 1);
            }
        }
    }

    private static void alikeAllOrNothing() {
        MirrorShares x = laid("r.#.;");
        due("alike(0, 1)", x.alike(0, 1), 0);
        due("alike(1, 0)", x.alike(1, 0), 0);
        due("alike(0, 2), nothing from both", x.alike(0, 2), 1);
        due("alike(1, 7), all from both", x.alike(1, 7), 1);
    }

    private static void alikeByTheShareAlone() {
        MirrorShares x = laid("rf#f;r..#;");
        due("alike(8, 0): 1 by 2, 0", x.alike(8, 0), 0);
        due("alike(8, 2): 1 by 2 at one wall, all at two", x.alike(8, 2), 0);
        due("alike(8, 5): 1 by 2 at one wall, 0 elsewhere", x.alike(8, 5), 1);
    }

    private static void alikeAsLost() {
        for (String text : ROOMS) {
            for (int p = 0; p < laid(text).count(7); p++) {
                MirrorShares x = laid(text);
                for (int q = 0; q < x.count(7); q++) {
                    boolean same = x.lost(p, 0) == x.lost(q, 0) && x.lost(p, 1) == x.lost(q, 1);
                    due("alike(" + p + ", " + q + ") of " + text, x.alike(p, q), same ? 1 : 0);
                }
            }
        }
    }

    private static void lastOf512Questions() {
        MirrorShares x = new MirrorShares();
        for (int call = 1; call <= 511; call++) {
            due("share as call " + call, x.share(0, 10, call % 2), call % 2 == 0 ? 1 : 4);
        }
        due("share as call 512", x.share(0, 10, 0), 1);
    }

    public static void main(String[] args) {
        holds("2 FREE, OPEN: it goes on", ShareEdges::goesOn);
        holds("2 WALL, SHUT: it is SWALLOWED", ShareEdges::isSwallowed);
        holds("2 MIRRORS: it is turned", ShareEdges::isTurned);
        holds("2 HALF ones: one half goes on, the other half is turned", ShareEdges::isHalved);

        portsLimits("13 above,", (x, p, q) -> x.share(p, q, 0));
        portsLimits("13 below,", (x, p, q) -> x.share(p, q, 1));
        limits("13 part (0, 1) of a share of 0", "r..;", 0, 1, (x, part) -> x.share(0, 0, part));
        limits("13 part (0, 1) of a share of 1", "r..;", 0, 1, (x, part) -> x.share(0, 3, part));
        holds("13 SHARE of the first PORT and the last", ShareEdges::shareOfFirstAndLastPort);
        holds("13 0: 0 by 1", ShareEdges::shareOfNothing);
        holds("13 a share of 1: 1 by 1", ShareEdges::shareOfAll);
        holds("13 at the other (or the same) one", ShareEdges::shareOfTheSamePort);
        holds("13 a fraction in lowest terms: two quarters", ShareEdges::shareInLowestTerms);
        holds("13, 14 each is a fraction in lowest terms", ShareEdges::alwaysLowest);
        holds("13 exactly, loops and all", ShareEdges::shareOfLoops);
        holds("13 a share of 1 by 512", ShareEdges::shareAtTheLeast);
        holds("13, 14 1 less all that goes OUT and is SWALLOWED", ShareEdges::sharesMakeOne);

        portLimits("14 SWALLOWED above, a PORT", (x, p) -> x.lost(p, 0));
        portLimits("14 SWALLOWED below, a PORT", (x, p) -> x.lost(p, 1));
        portLimits("14 CAUGHT above, a PORT", (x, p) -> x.lost(p, 2));
        portLimits("14 CAUGHT below, a PORT", (x, p) -> x.lost(p, 3));
        limits("14 what (0 to 3)", "r.#;", 0, 3, (x, what) -> x.lost(5, what));
        holds("14 nothing SWALLOWED: 0 by 1", ShareEdges::lostNothing);
        holds("14 all SWALLOWED: 1 by 1", ShareEdges::lostAll);
        holds("14 SWALLOWED in lowest terms", ShareEdges::lostInLowestTerms);
        holds("14 SWALLOWED out of loops", ShareEdges::lostOfLoops);
        holds("14 CAUGHT: what is left: 0 by 1", ShareEdges::noneIsCaught);
        holds("14 CAUGHT: closed rings catch nothing", ShareEdges::closedRings);
        holds("14 SWALLOWED at a door as it is", ShareEdges::lostAtADoor);

        portsLimits("15", MirrorShares::bits);
        holds("15 bits of 0", ShareEdges::bitsOfNothing);
        holds("15 bits of 1", ShareEdges::bitsOfAll);
        holds("15 bits of powers of a half, the least too", ShareEdges::bitsOfHalves);
        holds("15 bits of a quotient that is rounded", ShareEdges::bitsRounded);
        holds("15 above and below each made a float, the one divided by the other", ShareEdges::bitsOfAllShares);

        portLimits("16 a PORT", MirrorShares::lit);
        holds("16 LIT is the cell that swallows, and it alone", ShareEdges::litAlone);
        holds("16 all 20 CELLS LIT", ShareEdges::litAll);
        holds("16 no CELL behind a WALL is LIT", ShareEdges::litUpToAWall);
        holds("16 both halves light", ShareEdges::litBothHalves);
        holds("16 a CELL come into twice is one bit", ShareEdges::litTwiceIsOneBit);
        holds("16 the first and the last CELL as bits", ShareEdges::litFirstAndLastCell);

        portsLimits("17", MirrorShares::far);
        holds("17 FAR at the least: one CELL", ShareEdges::farAtTheLeast);
        holds("17 FAR across the smallest and the largest room", ShareEdges::farAcross);
        holds("17 NONE: nothing goes OUT there", ShareEdges::farNone);
        holds("17 NONE just where SHARE is 0", ShareEdges::farOnlyWithAShare);
        holds("17 the fewest CELLS", ShareEdges::farTheFewest);
        holds("17 one as often as it does", ShareEdges::farTwiceCountsTwice);
        holds("17 FAR of more CELLS than there are", ShareEdges::farAtTheMost);
        holds("17 BAD goes ahead of NONE", ShareEdges::farBadAheadOfNone);

        portsLimits("18", MirrorShares::alike);
        holds("18 1: a PORT and itself", ShareEdges::alikeToItself);
        holds("18 0: all and nothing", ShareEdges::alikeAllOrNothing);
        holds("18 the same share is SWALLOWED, wherever", ShareEdges::alikeByTheShareAlone);
        holds("18 1 just where both are the same, else 0", ShareEdges::alikeAsLost);

        unchanged("13 BAD: a PORT", ShareEdges::changed, x -> x.share(14, 0, 0), BAD);
        unchanged("13 BAD: part", ShareEdges::changed, x -> x.share(0, 0, 2), BAD);
        unchanged("14 BAD: a PORT", ShareEdges::changed, x -> x.lost(14, 0), BAD);
        unchanged("14 BAD: what", ShareEdges::changed, x -> x.lost(0, 4), BAD);
        unchanged("15 BAD", ShareEdges::changed, x -> x.bits(0, 14), BAD);
        unchanged("16 BAD", ShareEdges::changed, x -> x.lit(14), BAD);
        unchanged("17 BAD", ShareEdges::changed, x -> x.far(0, 14), BAD);
        unchanged("17 NONE", ShareEdges::changed, x -> x.far(2, 3), NONE);
        unchanged("18 BAD", ShareEdges::changed, x -> x.alike(14, 0), BAD);
        holds("at most 512 calls: questions", ShareEdges::lastOf512Questions);
        end();
    }
}

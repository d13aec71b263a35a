/** Hand-made cases for each promise: ordinary calls, edges, wrong calls. */
public final class PromiseTests {
    private static final int BAD = -1, NO = -2, FULL = -3, NONE = -4;
    private static final int LOW = Integer.MIN_VALUE, HIGH = Integer.MAX_VALUE;
    private static int wrong = 0;
    private static int asked = 0;

    private static void due(int promise, String call, int got, int want) {
        asked++;
        if (got != want) {
            wrong++;
            System.out.println("promise " + promise + ": " + call + " answered " + got + ", due is " + want);
        }
    }

    private static MirrorShares written(String text) {
        MirrorShares x = new MirrorShares();
        for (int i = 0; i < text.length(); i++) {
            due(2, "write in " + text, x.write(text.charAt(i)), i + 1);
        }
        return x;
    }

    private static MirrorShares laid(String text, int cells) {
        MirrorShares x = written(text);
        due(4, "fault of " + text, x.fault(), NONE);
        due(5, "lay of " + text, x.lay(), cells);
        return x;
    }

    private static void kinds(int promise, MirrorShares x, String letters) {
        for (int i = 0; i < letters.length(); i++) {
            due(promise, "cell(" + i + ")", x.cell(i), "./\\fb#ox".indexOf(letters.charAt(i)));
        }
        due(promise, "cell behind the last", x.cell(letters.length()), BAD);
    }

    private static void share(int promise, MirrorShares x, int p, int q, int above, int below) {
        String name = "share(" + p + ", " + q + ", ";
        due(promise, name + "0)", x.share(p, q, 0), above);
        due(promise, name + "1)", x.share(p, q, 1), below);
    }

    private static void newObject() {
        MirrorShares x = new MirrorShares();
        kinds(1, x, ".f/.b.xf\\f.\\");
        int[] want = {4, 3, 4, 1, 0, 0, 3, 14, 0, 0};
        for (int what = 0; what < want.length; what++) {
            due(1, "count(" + what + ")", x.count(what), want[what]);
        }
        due(1, "undo()", x.undo(), NO);
        due(1, "lay()", x.lay(), NO);
        MirrorShares y = laid("r.f/.;rb.xf;r\\f.\\;", 12);
        for (int p = 0; p < 14; p++) {
            due(1, "lit(" + p + ")", x.lit(p), y.lit(p));
        }
    }

    private static void writing() {
        MirrorShares x = new MirrorShares();
        for (int letter : new int[] {LOW, -1, 0, 31, 127, 128, HIGH}) {
            due(2, "write(" + letter + ")", x.write(letter), BAD);
        }
        due(2, "write(32)", x.write(32), 1);
        due(2, "write(126)", x.write(126), 2);
        for (int i = 3; i <= 60; i++) {
            due(2, "write(46)", x.write(46), i);
        }
        due(2, "write of one too many", x.write(46), FULL);
        due(2, "BAD goes ahead of FULL", x.write(127), BAD);
        due(2, "count(9)", x.count(9), 60);
        due(3, "wipe()", x.wipe(), 60);
        due(3, "wipe()", x.wipe(), 0);
        due(3, "count(9)", x.count(9), 0);
        due(3, "fault()", x.fault(), NONE);
        due(3, "write(46)", x.write(46), 1);
    }

    private static void faultAt(String text, int place) {
        MirrorShares x = written(text);
        due(4, "fault of " + text, x.fault(), place);
        due(4, "fault again of " + text, x.fault(), place);
        due(5, "lay of " + text, x.lay(), NO);
        due(5, "count(9) of " + text, x.count(9), text.length());
        kinds(5, x, ".f/.b.xf\\f.\\");
    }

    private static void faults() {
        faultAt("", NONE);
        faultAt(";", 0);
        faultAt("r", 0);
        faultAt("r;", 0);
        faultAt("r.;", 0);
        faultAt("r..", 0);
        faultAt("r......;", 0);
        faultAt("R..;", 0);
        faultAt(" r..;", 0);
        faultAt("r. ;", 0);
        faultAt("rr.;", 0);
        faultAt("..;", 0);
        faultAt("r..;;", 4);
        faultAt("r..;r..", 4);
        faultAt("r..;r.;", 4);
        faultAt("r..;r...;", 4);
        faultAt("r..;.;r.;", 4);
        faultAt("r..; ", 4);
        faultAt("r..;r..;r..;r..;r..;", 16);
        faultAt("r..;r..;r..;r..;r", 16);
        faultAt("rffbbf;rb....;", 7);
        faultAt("rff...;rbb...;rff...;r.....;", 14);
        faultAt("roxox.;r....x;", 7);
        faultAt("rox;rox;r.x;", 8);
    }

    private static void laying() {
        kinds(5, laid("r./;", 2), "./");
        kinds(5, laid("r./\\f#;", 5), "./\\f#");
        kinds(5, laid("rffbbf;roxox.;r#####;r/\\/\\.;", 20), "ffbbfoxox.#####/\\/\\.");
        MirrorShares x = new MirrorShares();
        due(5, "put", x.put(0, 5), 0);
        for (char letter : "r..;".toCharArray()) {
            x.write(letter);
        }
        due(5, "a text alone lays nothing", x.cell(0), 5);
        due(5, "nor does fault", x.fault(), NONE);
        due(5, "cell(0) as yet", x.cell(0), 5);
        due(5, "lay()", x.lay(), 2);
        due(5, "nothing can be undone", x.undo(), NO);
        due(5, "count(8)", x.count(8), 0);
        due(5, "the text stays", x.count(9), 4);
        due(5, "put", x.put(1, 5), 0);
        due(5, "lay() again", x.lay(), 2);
        due(5, "cell(1)", x.cell(1), 0);
        x.put(1, 1);
        x.write('q');
        due(5, "lay() with a fault", x.lay(), NO);
        due(5, "it keeps the room", x.cell(1), 1);
        due(5, "it keeps what can be undone", x.undo(), 0);
    }

    private static void putting() {
        MirrorShares x = laid("rffff;rooo.;", 8);
        due(6, "put(-1, 0)", x.put(-1, 0), BAD);
        due(6, "put(8, 0)", x.put(8, 0), BAD);
        due(6, "put(HIGH, 0)", x.put(HIGH, 0), BAD);
        due(6, "put(0, -1)", x.put(0, -1), BAD);
        due(6, "put(0, 8)", x.put(0, 8), BAD);
        due(6, "put(0, 3)", x.put(0, 3), NO);
        due(6, "put(7, 4)", x.put(7, 4), 0);
        due(6, "half for half", x.put(0, 4), 3);
        due(6, "a sixth half", x.put(4, 3), FULL);
        due(6, "nothing changed", x.cell(4), 6);
        due(6, "count(8)", x.count(8), 2);
        due(6, "put(7, 7)", x.put(7, 7), 4);
        due(6, "a fifth door", x.put(0, 6), FULL);
        due(6, "door for door", x.put(4, 7), 6);
        due(6, "NO goes ahead of FULL", x.put(4, 7), NO);
        due(6, "put(4, 5)", x.put(4, 5), 7);
        due(6, "count(3)", x.count(3), 3);
        due(6, "count(4)", x.count(4), 2);
        due(6, "count(5)", x.count(5), 1);
    }

    private static void doors() {
        MirrorShares x = laid("r.x.;ro.x;", 6);
        due(11, "doorAt(0)", x.doorAt(0), 1);
        due(11, "doorAt(1)", x.doorAt(1), 3);
        due(11, "doorAt(2)", x.doorAt(2), 5);
        due(11, "doorAt(3)", x.doorAt(3), BAD);
        due(11, "doorAt(-1)", x.doorAt(-1), BAD);
        due(11, "doorAt(LOW)", x.doorAt(LOW), BAD);
        due(7, "door(0, 1)", x.door(0, 1), 2);
        due(7, "door(0, 1)", x.door(0, 1), NO);
        due(7, "door(1, 0)", x.door(1, 0), 1);
        due(7, "door(2, 0)", x.door(2, 0), NO);
        due(7, "door(3, 0)", x.door(3, 0), BAD);
        due(7, "door(-1, 0)", x.door(-1, 0), BAD);
        due(7, "door(0, 2)", x.door(0, 2), BAD);
        due(7, "door(0, -1)", x.door(0, -1), BAD);
        kinds(7, x, ".o.x.x");
        due(7, "count(8)", x.count(8), 2);
        due(9, "undo()", x.undo(), 1);
        due(9, "undo()", x.undo(), 0);
        kinds(9, x, ".x.o.x");
        MirrorShares none = laid("r..;", 2);
        due(7, "no doors", none.door(0, 1), BAD);
        due(11, "no doors", none.doorAt(0), BAD);
    }

    private static void turning() {
        MirrorShares x = laid("r./\\f;rb#ox;", 8);
        due(8, "turn()", x.turn(), 2);
        kinds(8, x, "f.#\\o/xb");
        due(8, "count(0)", x.count(0), 2);
        due(8, "count(1)", x.count(1), 4);
        due(8, "turn()", x.turn(), 4);
        kinds(8, x, "xo#bf\\/.");
        due(9, "undo()", x.undo(), 1);
        due(9, "undo()", x.undo(), 0);
        kinds(9, x, "./\\fb#ox");
        due(9, "count(0)", x.count(0), 4);
        due(9, "count(1)", x.count(1), 2);
        MirrorShares flat = laid("r...;", 3);
        due(8, "one column", flat.turn(), NO);
        MirrorShares wide = laid("r.....;r.....;", 10);
        due(8, "five rows", wide.turn(), NO);
        due(8, "count(8)", wide.count(8), 0);
        MirrorShares both = laid("r.....;", 5);
        due(8, "five rows of one column", both.turn(), NO);
        due(8, "4 by 4", laid("r....;r....;r....;r....;", 16).turn(), 4);
        due(8, "2 by 4", laid("r..;r..;r..;r..;", 8).turn(), 4);
    }

    private static void undoing() {
        MirrorShares x = laid("r....;r....;", 8);
        due(9, "undo()", x.undo(), NO);
        for (int i = 0; i < 6; i++) {
            due(9, "put", x.put(i, 5), 0);
            due(9, "count(8)", x.count(8), Math.min(4, i + 1));
        }
        due(9, "undo()", x.undo(), 3);
        due(9, "undo()", x.undo(), 2);
        kinds(9, x, "####....");
        due(9, "turn()", x.turn(), 2);
        due(9, "put(0, 1)", x.put(0, 1), 0);
        due(9, "put(0, 2)", x.put(0, 2), 1);
        due(9, "count(8)", x.count(8), 4);
        due(9, "undo()", x.undo(), 3);
        due(9, "undo()", x.undo(), 2);
        due(9, "undo()", x.undo(), 1);
        kinds(9, x, "####....");
        due(9, "undo()", x.undo(), 0);
        kinds(9, x, "###.....");
        due(9, "undo()", x.undo(), NO);
        kinds(9, x, "###.....");
    }

    private static void room() {
        MirrorShares x = laid("r./;r\\f;rb#;", 6);
        kinds(10, x, "./\\fb#");
        due(10, "cell(-1)", x.cell(-1), BAD);
        due(10, "cell(LOW)", x.cell(LOW), BAD);
        due(10, "cell(HIGH)", x.cell(HIGH), BAD);
        int[] cells = {0, 1, 1, 3, 5, 4, 5, 0, 2, 4};
        int[] directions = {2, 2, 3, 3, 3, 0, 0, 1, 1, 1};
        for (int p = 0; p < 10; p++) {
            due(12, "port(" + p + ", 0)", x.port(p, 0), cells[p]);
            due(12, "port(" + p + ", 1)", x.port(p, 1), directions[p]);
        }
        due(12, "port(10, 0)", x.port(10, 0), BAD);
        due(12, "port(-1, 1)", x.port(-1, 1), BAD);
        due(12, "port(0, -1)", x.port(0, -1), BAD);
        due(12, "port(0, 2)", x.port(0, 2), BAD);
        due(12, "port(HIGH, HIGH)", x.port(HIGH, HIGH), BAD);
    }

    /** In r.f; the ports are 0 1 above, 2 right, 3 4 below, 5 left. */
    private static void shares() {
        MirrorShares x = laid("r.f;", 2);
        share(13, x, 5, 2, 1, 2);
        share(13, x, 5, 1, 1, 2);
        share(13, x, 5, 4, 0, 1);
        share(13, x, 5, 5, 0, 1);
        share(13, x, 1, 4, 1, 2);
        share(13, x, 1, 5, 1, 2);
        share(13, x, 0, 3, 1, 1);
        due(13, "share(-1, 0, 0)", x.share(-1, 0, 0), BAD);
        due(13, "share(6, 0, 0)", x.share(6, 0, 0), BAD);
        due(13, "share(0, -1, 0)", x.share(0, -1, 0), BAD);
        due(13, "share(0, 6, 0)", x.share(0, 6, 0), BAD);
        due(13, "share(0, 0, -1)", x.share(0, 0, -1), BAD);
        due(13, "share(0, 0, 2)", x.share(0, 0, 2), BAD);
        MirrorShares back = laid("rb.;", 2);
        share(13, back, 0, 3, 1, 2);
        share(13, back, 0, 2, 1, 2);
        share(13, back, 2, 0, 1, 2);
        share(13, back, 2, 5, 1, 2);
        share(13, back, 3, 5, 1, 2);
        share(13, back, 5, 3, 1, 2);
    }

    /** In a room of 2 by 2 the ports are 0 1 above, 2 3 right, 4 5 below, 6 7 left. */
    private static void loops() {
        MirrorShares one = laid("rf\\;r\\/;", 4);
        share(13, one, 0, 6, 1, 1);
        due(16, "lit(0)", one.lit(0), 15);
        due(17, "far(0, 6)", one.far(0, 6), 1);
        MirrorShares two = laid("rf\\;r\\f;", 4);
        share(13, two, 0, 6, 2, 3);
        share(13, two, 0, 3, 1, 3);
        due(15, "bits(0, 6)", two.bits(0, 6), Float.floatToIntBits(2f / 3f));
        due(15, "bits(0, 3)", two.bits(0, 3), 0x3eaaaaab);
        due(15, "bits(0, 0)", two.bits(0, 0), 0);
        due(15, "bits(1, 2)", two.bits(1, 2), Float.floatToIntBits(1f));
        due(15, "bits(8, 0)", two.bits(8, 0), BAD);
        due(15, "bits(0, -1)", two.bits(0, -1), BAD);
        due(17, "far(0, 3)", two.far(0, 3), 3);
        due(14, "lost(0, 0)", two.lost(0, 0), 0);
        due(14, "lost(0, 1)", two.lost(0, 1), 1);
        due(14, "lost(0, 2)", two.lost(0, 2), 0);
        due(14, "lost(0, 3)", two.lost(0, 3), 1);
    }

    /** The half mirror in the middle feeds itself alone: no beam from a port comes to it, none is caught. */
    private static void closedRing() {
        MirrorShares x = laid("r/\\.;r\\f\\;r.\\/;", 9);
        for (int p = 0; p < 12; p++) {
            due(16, "lit(" + p + ") at the middle", x.lit(p) & 1 << 4, 0);
            due(14, "lost(" + p + ", 0)", x.lost(p, 0), 0);
            due(14, "lost(" + p + ", 2)", x.lost(p, 2), 0);
            due(14, "lost(" + p + ", 3)", x.lost(p, 3), 1);
        }
        share(13, x, 2, 4, 1, 1);
        due(6, "a wall instead of a mirror", x.put(5, 5), 2);
        due(14, "lost(2, 0)", x.lost(2, 0), 1);
    }

    private static void lost() {
        MirrorShares x = laid("rff#;rx..;", 6);
        due(14, "lost(8, 0)", x.lost(8, 0), 1);
        due(14, "lost(8, 1)", x.lost(8, 1), 4);
        due(14, "lost(8, 2)", x.lost(8, 2), 0);
        due(14, "lost(8, 3)", x.lost(8, 3), 1);
        due(14, "lost(9, 0)", x.lost(9, 0), 1);
        due(14, "lost(9, 1)", x.lost(9, 1), 1);
        due(14, "lost(0, 0)", x.lost(0, 0), 1);
        due(14, "lost(0, 1)", x.lost(0, 1), 2);
        due(14, "lost(7, 0)", x.lost(7, 0), 1);
        due(14, "lost(7, 1)", x.lost(7, 1), 1);
        due(14, "lost(1, 0)", x.lost(1, 0), 1);
        due(14, "lost(1, 1)", x.lost(1, 1), 4);
        due(14, "lost(-1, 0)", x.lost(-1, 0), BAD);
        due(14, "lost(10, 0)", x.lost(10, 0), BAD);
        due(14, "lost(0, -1)", x.lost(0, -1), BAD);
        due(14, "lost(0, 4)", x.lost(0, 4), BAD);
        due(18, "alike(8, 8)", x.alike(8, 8), 1);
        due(18, "alike(8, 9)", x.alike(8, 9), 0);
        due(18, "alike(2, 9)", x.alike(2, 9), 1);
        due(18, "alike(0, 8)", x.alike(0, 8), 0);
        due(18, "alike(10, 0)", x.alike(10, 0), BAD);
        due(18, "alike(0, 10)", x.alike(0, 10), BAD);
        due(18, "alike(-1, -1)", x.alike(-1, -1), BAD);
    }

    /** Ports: 0 1 2 above, 3 4 right, 5 6 7 below, 8 9 left. */
    private static void litAndFar() {
        MirrorShares x = laid("r.f#;ro\\/;", 6);
        due(16, "lit(8)", x.lit(8), 0b111);
        due(16, "lit(1)", x.lit(1), 0b110111);
        due(16, "lit(2)", x.lit(2), 0b100);
        due(16, "lit(-1)", x.lit(-1), BAD);
        due(16, "lit(10)", x.lit(10), BAD);
        due(17, "far(8, 1)", x.far(8, 1), 2);
        due(17, "far(8, 3)", x.far(8, 3), NONE);
        due(17, "far(1, 8)", x.far(1, 8), 2);
        due(17, "far(0, 5)", x.far(0, 5), 2);
        due(17, "far(2, 2)", x.far(2, 2), NONE);
        due(17, "far(10, 0)", x.far(10, 0), BAD);
        due(17, "far(0, 10)", x.far(0, 10), BAD);
        MirrorShares twice = laid("r/\\;r.f;", 4);
        due(17, "a cell that it comes into twice counts twice", twice.far(7, 4), 5);
    }

    private static void best() {
        MirrorShares x = laid("r.xo;r..o;", 6);
        due(19, "best(8, 3, 0)", x.best(8, 3, 0), 3);
        due(19, "best(8, 3, 1)", x.best(8, 3, 1), 1);
        due(19, "best(8, 3, 2)", x.best(8, 3, 2), 1);
        due(19, "best(9, 4, 0)", x.best(9, 4, 0), 4);
        due(19, "best(9, 3, 0)", x.best(9, 3, 0), 0);
        due(19, "best(9, 3, 1)", x.best(9, 3, 1), 0);
        due(19, "best(9, 3, 2)", x.best(9, 3, 2), 1);
        due(19, "best(0, 5, 0)", x.best(0, 5, 0), 0);
        due(19, "best(0, 5, 1)", x.best(0, 5, 1), 1);
        kinds(19, x, ".xo..o");
        due(19, "count(8)", x.count(8), 0);
        due(19, "best(10, 0, 0)", x.best(10, 0, 0), BAD);
        due(19, "best(0, 10, 0)", x.best(0, 10, 0), BAD);
        due(19, "best(0, 0, 3)", x.best(0, 0, 3), BAD);
        due(19, "best(0, 0, -1)", x.best(0, 0, -1), BAD);
        MirrorShares half = laid("rfo;rx.;", 4);
        due(19, "best(6, 2, 0)", half.best(6, 2, 0), 1);
        due(19, "best(6, 2, 1)", half.best(6, 2, 1), 1);
        due(19, "best(6, 2, 2)", half.best(6, 2, 2), 2);
    }

    private static void found(MirrorShares x, int[] pqab, int many, int first) {
        String name = "found(" + pqab[0] + ", " + pqab[1] + ", " + pqab[2] + ", " + pqab[3] + ", ";
        due(20, name + "0)", x.found(pqab[0], pqab[1], pqab[2], pqab[3], 0), many);
        due(20, name + "1)", x.found(pqab[0], pqab[1], pqab[2], pqab[3], 1), first);
    }

    private static void founds() {
        MirrorShares x = laid("r..;", 2);
        found(x, new int[] {5, 0, 1, 1}, 1, 0);
        found(x, new int[] {5, 3, 1, 1}, 1, 1);
        found(x, new int[] {5, 1, 1, 1}, 1, 2);
        found(x, new int[] {5, 4, 1000, 1000}, 1, 3);
        found(x, new int[] {5, 2, 1, 1}, 0, NONE);
        found(x, new int[] {5, 2, 0, 7}, 4, 0);
        found(x, new int[] {5, 2, 1000, 1}, 0, NONE);
        found(x, new int[] {0, 3, 1, 1}, 2, 2);
        kinds(20, x, "..");
        for (int[] wrongCall : new int[][] {{6, 0, 0, 1, 0}, {0, 6, 0, 1, 0}, {-1, 0, 0, 1, 0}, {0, -1, 0, 1, 0},
            {0, 0, -1, 1, 0}, {0, 0, 1001, 1, 0}, {0, 0, 0, 0, 0}, {0, 0, 0, 1001, 0}, {0, 0, 0, -1, 0},
            {0, 0, 0, 1, -1}, {0, 0, 0, 1, 2}}) {
            due(20, "found of a wrong number", x.found(wrongCall[0], wrongCall[1], wrongCall[2], wrongCall[3],
                    wrongCall[4]), BAD);
        }
        MirrorShares full = laid("ro#;", 2);
        found(full, new int[] {0, 3, 1, 1}, 0, NONE);
        MirrorShares half = laid("rf.;", 2);
        found(half, new int[] {5, 1, 2, 4}, 1, 2);
        found(half, new int[] {5, 0, 500, 1000}, 2, 2);
    }

    private static void counts() {
        MirrorShares x = laid("rfbf/\\;roxo##;", 10);
        x.put(9, 0);
        int[] want = {5, 2, 3, 3, 2, 1, 2, 14, 1, 14};
        for (int what = 0; what < want.length; what++) {
            due(21, "count(" + what + ")", x.count(what), want[what]);
        }
        due(21, "count(-1)", x.count(-1), BAD);
        due(21, "count(10)", x.count(10), BAD);
        due(21, "count(LOW)", x.count(LOW), BAD);
        due(21, "count(HIGH)", x.count(HIGH), BAD);
    }

    public static void main(String[] args) {
        newObject();
        writing();
        faults();
        laying();
        putting();
        doors();
        turning();
        undoing();
        room();
        shares();
        loops();
        closedRing();
        lost();
        litAndFar();
        best();
        founds();
        counts();
        System.out.println(asked + " answers, " + wrong + " not as due");
        if (wrong != 0) {
            System.exit(1);
        }
    }
}

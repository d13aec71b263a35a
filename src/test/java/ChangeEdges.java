/** The boundary sentences of promises 6 to 9: put, door, turn, undo. */
public final class ChangeEdges extends Sentences {
    /** 5 HALF ones, 4 doors, and one cell of each other kind. */
    private static final String FULL_ROOM = "rfbfbf;roxox.;r/\\#..;";
    private static final String FULL_CELLS = "fbfbfoxox./\\#..";

    private static MirrorShares changed() {
        MirrorShares x = new MirrorShares();
        x.put(0, WALL);
        x.turn();
        x.door(0, 1);
        x.put(1, SLASH);
        x.put(2, BACKSLASH);
        return told(x, "r##;r#");
    }

    private static MirrorShares full() {
        MirrorShares x = laid(FULL_ROOM);
        x.put(14, WALL);
        x.door(0, 0);
        return x;
    }

    // ---- 6 put

    private static void putFirstAndLastCell() {
        MirrorShares small = laid("r..;");
        due("put(0, 5)", small.put(0, WALL), FREE);
        due("put(1, 1)", small.put(1, SLASH), FREE);
        cells(small, "#/");
        MirrorShares large = laid(freeRoom(5, 4));
        due("put(0, 5)", large.put(0, WALL), FREE);
        due("put(19, 1)", large.put(19, SLASH), FREE);
        cells(large, "#" + ".".repeat(18) + "/");
    }

    private static void putCellTooSmall() {
        MirrorShares x = laid(freeRoom(5, 4));
        each("put of a cell", cell -> x.put(cell, WALL), BAD, -1, -2, -20, LOW, LOW + 1);
        cells(x, ".".repeat(20));
    }

    private static void putCellTooLarge() {
        MirrorShares small = laid("r..;");
        each("put of a cell", cell -> small.put(cell, WALL), BAD, 2, 3, 19, 20, HIGH);
        MirrorShares large = laid(freeRoom(5, 4));
        each("put of a cell", cell -> large.put(cell, WALL), BAD, 20, 21, HIGH);
        MirrorShares first = new MirrorShares();
        each("put of a cell", cell -> first.put(cell, WALL), BAD, 12, 13, 19, 20);
    }

    private static void putCellByWrapAround() {
        MirrorShares x = laid(freeRoom(5, 4));
        each("put of a cell", cell -> x.put(cell, WALL), BAD, 1 << 8, 1 << 16, 1 << 28, 1 << 29, 1 << 30, LOW + 3);
        cells(x, ".".repeat(20));
    }

    private static void putFromEachKindToEach() {
        for (int from = 0; from <= 7; from++) {
            for (int to = 0; to <= 7; to++) {
                MirrorShares x = laid("r" + LETTERS.charAt(from) + ".;");
                due("put(0, " + to + ") on " + from, x.put(0, to), from == to ? NO : from);
                cells(x, LETTERS.charAt(to) + ".");
                due("count(8)", x.count(8), from == to ? 0 : 1);
            }
        }
    }

    private static void putFifthHalf() {
        for (int kind : new int[] {HALF_SLASH, HALF_BACKSLASH}) {
            MirrorShares x = laid("rfbfb.;");
            due("a fifth HALF one", x.put(4, kind), FREE);
            due("count(2)", x.count(2), 5);
        }
    }

    private static void putSixthHalf() {
        for (int kind : new int[] {HALF_SLASH, HALF_BACKSLASH}) {
            MirrorShares x = laid(FULL_ROOM);
            each("a sixth HALF one on a cell", cell -> x.put(cell, kind), FULL, 5, 6, 9, 10, 11, 12);
            cells(x, FULL_CELLS);
        }
    }

    private static void putHalfOnHalf() {
        MirrorShares x = laid(FULL_ROOM);
        due("put(0, 4)", x.put(0, HALF_BACKSLASH), HALF_SLASH);
        due("put(1, 3)", x.put(1, HALF_SLASH), HALF_BACKSLASH);
        due("count(2)", x.count(2), 5);
    }

    private static void putFourthDoor() {
        for (int kind : new int[] {OPEN, SHUT}) {
            MirrorShares x = laid("roxo.;");
            due("a fourth door", x.put(3, kind), FREE);
            due("count(3)", x.count(3), 4);
        }
    }

    private static void putFifthDoor() {
        for (int kind : new int[] {OPEN, SHUT}) {
            MirrorShares x = laid(FULL_ROOM);
            each("a fifth door on a cell", cell -> x.put(cell, kind), FULL, 0, 1, 9, 10, 11, 12);
            cells(x, FULL_CELLS);
        }
    }

    private static void putDoorOnDoor() {
        MirrorShares x = laid(FULL_ROOM);
        due("put(5, 7)", x.put(5, SHUT), OPEN);
        due("put(6, 6)", x.put(6, OPEN), SHUT);
        due("count(3)", x.count(3), 4);
        due("count(4)", x.count(4), 2);
    }

    private static void putHalfAndDoorForEachOther() {
        MirrorShares doors = laid("rfbfbf;roxo..;");
        due("a door on a HALF one of 5", doors.put(0, SHUT), HALF_SLASH);
        due("a HALF one on a door of 4", doors.put(0, HALF_BACKSLASH), SHUT);
        MirrorShares halves = laid("rfbfb.;roxox.;");
        due("a HALF one on a door of 4", halves.put(5, HALF_SLASH), OPEN);
        due("a door on a HALF one of 5", halves.put(5, OPEN), HALF_SLASH);
    }

    private static void putOtherKindsInAFullRoom() {
        MirrorShares x = laid(FULL_ROOM);
        due("put(9, 5)", x.put(9, WALL), FREE);
        due("put(12, 0)", x.put(12, FREE), WALL);
        due("put(10, 2)", x.put(10, BACKSLASH), SLASH);
        due("put(13, 1)", x.put(13, SLASH), FREE);
    }

    private static void putAgainBehindOneLess() {
        MirrorShares x = laid(FULL_ROOM);
        due("put(0, 0)", x.put(0, FREE), HALF_SLASH);
        due("a fifth HALF one again", x.put(13, HALF_BACKSLASH), FREE);
        due("a sixth", x.put(0, HALF_SLASH), FULL);
        due("put(5, 0)", x.put(5, FREE), OPEN);
        due("a fourth door again", x.put(14, OPEN), FREE);
        due("a fifth", x.put(5, SHUT), FULL);
    }

    private static void putBadAheadOfNoAndFull() {
        MirrorShares x = laid(FULL_ROOM);
        each("a HALF one on a cell", cell -> x.put(cell, HALF_SLASH), BAD, -1, 15, 20);
        each("a door on a cell", cell -> x.put(cell, OPEN), BAD, -1, 15, 20);
        each("a kind on a cell of it", kind -> x.put(9, kind), BAD, -1, 8);
    }

    private static void putNoAheadOfFull() {
        MirrorShares x = laid(FULL_ROOM);
        due("put(0, 3)", x.put(0, HALF_SLASH), NO);
        due("put(1, 4)", x.put(1, HALF_BACKSLASH), NO);
        due("put(5, 6)", x.put(5, OPEN), NO);
        due("put(6, 7)", x.put(6, SHUT), NO);
    }

    // ---- 7 door

    private static void doorFirstAndLast() {
        MirrorShares x = laid("rxxxx;");
        due("door(0, 1)", x.door(0, 1), 1);
        due("door(3, 1)", x.door(3, 1), 2);
        cells(x, "oxxo");
    }

    private static void doorNoneOrAllOpen() {
        MirrorShares x = laid("rxxxx;");
        for (int d = 0; d < 4; d++) {
            due("door(" + d + ", 1)", x.door(d, 1), d + 1);
        }
        for (int d = 0; d < 4; d++) {
            due("door(" + d + ", 0)", x.door(d, 0), 3 - d);
        }
        cells(x, "xxxx");
    }

    private static void doorTooSmall() {
        MirrorShares x = laid("rxxxx;");
        each("door", d -> x.door(d, 1), BAD, -1, -4, LOW);
        cells(x, "xxxx");
    }

    private static void doorTooLarge() {
        MirrorShares four = laid("rxxxx;");
        each("door", d -> four.door(d, 1), BAD, 4, 5, 32, 256, 65536, HIGH);
        MirrorShares one = new MirrorShares();
        each("door", d -> one.door(d, 1), BAD, 1, 2, 3, 6);
        cells(four, "xxxx");
    }

    private static void doorOfNone() {
        MirrorShares x = laid("r.#;");
        each("door", d -> x.door(d, 1), BAD, -1, 0, 1);
        each("door", d -> x.door(d, 0), BAD, -1, 0, 1);
        cells(x, ".#");
    }

    private static void doorIsOpen() {
        MirrorShares x = laid("rxo;");
        due("door(1, 1)", x.door(1, 1), NO);
        due("door(0, 1)", x.door(0, 1), 2);
        due("door(0, 1)", x.door(0, 1), NO);
    }

    private static void doorIsShut() {
        MirrorShares x = laid("rxo;");
        due("door(0, 0)", x.door(0, 0), NO);
        due("door(1, 0)", x.door(1, 0), 0);
        due("door(1, 0)", x.door(1, 0), NO);
    }

    private static void doorBadAheadOfNo() {
        MirrorShares x = laid("rxo;");
        due("door(0, -1)", x.door(0, -1), BAD);
        due("door(2, 0)", x.door(2, 0), BAD);
        due("door(2, 1)", x.door(2, 1), BAD);
        due("door(-1, 0)", x.door(-1, 0), BAD);
    }

    private static void doorsSuchAsThereAre() {
        MirrorShares x = laid("r.x.x;");
        due("door(2, 1)", x.door(2, 1), BAD);
        due("put(0, 7)", x.put(0, SHUT), FREE);
        due("door(2, 1), a door more", x.door(2, 1), 1);
        cells(x, "xx.o");
        due("put(1, 0)", x.put(1, FREE), SHUT);
        due("door(2, 0), a door less", x.door(2, 0), BAD);
        due("door(1, 0)", x.door(1, 0), 0);
        cells(x, "x..x");
    }

    // ---- 8 turn

    private static void turnOfOneRow() {
        for (int columns = 2; columns <= 4; columns++) {
            MirrorShares x = laid(freeRoom(columns, 1));
            due("turn() of " + columns + " by 1", x.turn(), NO);
            due("count(0)", x.count(0), columns);
            due("count(1)", x.count(1), 1);
        }
    }

    private static void turnOfFiveColumns() {
        for (int rows = 1; rows <= 4; rows++) {
            MirrorShares x = laid(freeRoom(5, rows));
            due("turn() of 5 by " + rows, x.turn(), NO);
            due("count(0)", x.count(0), 5);
            due("count(1)", x.count(1), rows);
        }
    }

    private static void turnOfAllOthers() {
        for (int columns = 2; columns <= 4; columns++) {
            for (int rows = 2; rows <= 4; rows++) {
                MirrorShares x = laid(freeRoom(columns, rows));
                due("turn() of " + columns + " by " + rows, x.turn(), rows);
                due("count(0)", x.count(0), rows);
                due("count(1)", x.count(1), columns);
                due("turn() again", x.turn(), columns);
            }
        }
    }

    private static void turnToTheRight() {
        MirrorShares x = laid("r.#;roo;rxx;");
        due("turn()", x.turn(), 3);
        cells(x, "xo.xo#");
        due("turn()", x.turn(), 2);
        cells(x, "xxoo#.");
    }

    private static void turnOfMirrors() {
        MirrorShares x = laid("r/\\;rfb;");
        due("turn()", x.turn(), 2);
        cells(x, "b\\f/");
    }

    private static void turnOfOtherKinds() {
        MirrorShares x = laid("r.#;rox;");
        due("turn()", x.turn(), 2);
        cells(x, "o.x#");
    }

    private static void fourTurns() {
        MirrorShares x = new MirrorShares();
        for (int i = 0; i < 4; i++) {
            due("turn()", x.turn(), i % 2 == 0 ? 3 : 4);
        }
        cells(x, ".f/.b.xf\\f.\\");
    }

    private static void turnOfTheFullest() {
        MirrorShares x = laid("rfbfb;rfoxo;rx###;r////;");
        due("turn()", x.turn(), 4);
        due("count(2)", x.count(2), 5);
        due("count(3)", x.count(3), 4);
        cells(x, "\\xbb\\#of\\#xb\\#of");
    }

    private static void turnSuchAsThereAre() {
        MirrorShares x = laid("r.x..;ro...;");
        due("doorAt(0)", x.doorAt(0), 1);
        due("turn()", x.turn(), 2);
        cells(x, "o..x....");
        due("doorAt(0)", x.doorAt(0), 0);
        due("doorAt(1)", x.doorAt(1), 3);
        due("doorAt(2)", x.doorAt(2), BAD);
        due("port(11, 0)", x.port(11, 0), 6);
        due("port(12, 0)", x.port(12, 0), BAD);
        due("port(2, 1)", x.port(2, 1), 3);
    }

    // ---- 9 undo

    private static void undoOfNothing() {
        due("undo()", new MirrorShares().undo(), NO);
        due("undo()", laid("r..;").undo(), NO);
    }

    private static void undoOfOne() {
        MirrorShares x = laid("r..;");
        x.put(1, WALL);
        due("undo()", x.undo(), 0);
        cells(x, "..");
        due("undo()", x.undo(), NO);
        cells(x, "..");
    }

    private static MirrorShares walls(int many) {
        MirrorShares x = laid(freeRoom(5, 4));
        for (int cell = 0; cell < many; cell++) {
            x.put(cell, WALL);
        }
        return x;
    }

    private static String wallCells(int many) {
        return "#".repeat(many) + ".".repeat(20 - many);
    }

    private static void undoOfFour() {
        MirrorShares x = walls(4);
        for (int more = 3; more >= 0; more--) {
            due("undo()", x.undo(), more);
            cells(x, wallCells(more));
        }
        due("undo()", x.undo(), NO);
    }

    private static void undoOfFive() {
        MirrorShares x = walls(5);
        for (int more = 3; more >= 0; more--) {
            due("undo()", x.undo(), more);
            cells(x, wallCells(more + 1));
        }
        due("undo()", x.undo(), NO);
        cells(x, wallCells(1));
    }

    private static void undoOfTwenty() {
        MirrorShares x = walls(20);
        due("count(8)", x.count(8), 4);
        for (int more = 3; more >= 0; more--) {
            due("undo()", x.undo(), more);
        }
        due("undo()", x.undo(), NO);
        cells(x, wallCells(16));
    }

    private static void undoneIsNoChange() {
        MirrorShares x = walls(6);
        due("undo()", x.undo(), 3);
        due("undo()", x.undo(), 2);
        due("count(8)", x.count(8), 2);
        due("put(19, 1)", x.put(19, SLASH), FREE);
        due("count(8)", x.count(8), 3);
        due("undo()", x.undo(), 2);
        due("undo()", x.undo(), 1);
        due("undo()", x.undo(), 0);
        due("undo()", x.undo(), NO);
        cells(x, wallCells(2));
    }

    private static void undoOfEachChange() {
        MirrorShares x = new MirrorShares();
        due("put(11, 4)", x.put(11, HALF_BACKSLASH), BACKSLASH);
        due("door(0, 1)", x.door(0, 1), 1);
        due("turn()", x.turn(), 3);
        due("put(0, 0)", x.put(0, FREE), SLASH);
        cells(x, ".f.b.b.o\\fb.");
        due("undo()", x.undo(), 3);
        due("undo()", x.undo(), 2);
        cells(x, ".f/.b.of\\f.b");
        due("count(0)", x.count(0), 4);
        due("undo()", x.undo(), 1);
        cells(x, ".f/.b.xf\\f.b");
        due("undo()", x.undo(), 0);
        cells(x, ".f/.b.xf\\f.\\");
    }

    private static void undoOfTurns() {
        MirrorShares x = laid("r./;rb#;rox;");
        for (int i = 0; i < 5; i++) {
            x.turn();
        }
        due("count(0)", x.count(0), 3);
        for (int more = 3; more >= 0; more--) {
            due("undo()", x.undo(), more);
            due("count(0)", x.count(0), more % 2 == 0 ? 3 : 2);
            due("count(1)", x.count(1), more % 2 == 0 ? 2 : 3);
        }
        cells(x, "of.x#\\");
        due("undo()", x.undo(), NO);
        due("count(0)", x.count(0), 3);
    }

    private static void undoOfTheFullest() {
        MirrorShares x = laid(FULL_ROOM);
        x.put(0, FREE);
        x.put(13, HALF_SLASH);
        x.put(5, FREE);
        x.put(14, SHUT);
        due("undo()", x.undo(), 3);
        due("undo()", x.undo(), 2);
        due("undo()", x.undo(), 1);
        due("undo()", x.undo(), 0);
        cells(x, FULL_CELLS);
    }

    private static void refusedIsNoChange() {
        MirrorShares x = laid("rx.;");
        x.put(1, WALL);
        x.put(1, WALL);
        x.put(2, WALL);
        x.door(0, 0);
        x.door(1, 0);
        x.turn();
        x.lay();
        due("count(8) behind LAID", x.count(8), 0);
        x.put(1, WALL);
        x.write(31);
        x.put(1, WALL);
        x.put(-1, WALL);
        x.door(0, 0);
        x.door(1, 1);
        x.turn();
        x.write('q');
        x.lay();
        due("count(8)", x.count(8), 1);
        due("undo()", x.undo(), 0);
        cells(x, "x.");
    }

    private static void asksAreNoChanges() {
        MirrorShares x = laid("rx.;r..;");
        x.put(1, WALL);
        x.best(0, 4, 0);
        x.found(0, 4, 1, 1, 0);
        x.share(0, 4, 0);
        x.lit(0);
        x.fault();
        x.wipe();
        due("count(8)", x.count(8), 1);
        cells(x, "x#..");
        due("undo()", x.undo(), 0);
        cells(x, "x...");
    }

    // ---- an object's 512 calls

    private static void lastOf512Changes() {
        MirrorShares x = new MirrorShares();
        for (int call = 1; call <= 507; call++) {
            due("put as call " + call, x.put(0, call % 2 == 1 ? WALL : FREE), call % 2 == 1 ? FREE : WALL);
        }
        for (int call = 508; call <= 511; call++) {
            due("undo as call " + call, x.undo(), 511 - call);
        }
        due("undo as call 512", x.undo(), NO);
    }

    private static void lastOf512Turns() {
        MirrorShares x = new MirrorShares();
        for (int call = 1; call <= 511; call++) {
            due("turn as call " + call, x.turn(), call % 2 == 1 ? 3 : 4);
        }
        due("cell as call 512", x.cell(2), SLASH);
    }

    private static void lastOf512Writes() {
        MirrorShares x = new MirrorShares();
        for (int call = 1; call <= 511; call++) {
            due("write as call " + call, x.write('r'), call <= 60 ? call : FULL);
        }
        due("wipe as call 512", x.wipe(), 60);
    }

    public static void main(String[] args) {
        holds("6 CELL: the first and the last there is", ChangeEdges::putFirstAndLastCell);
        holds("6 BAD: a CELL too small", ChangeEdges::putCellTooSmall);
        holds("6 BAD: a CELL too large", ChangeEdges::putCellTooLarge);
        holds("6 BAD: a CELL only by wrap-around", ChangeEdges::putCellByWrapAround);
        limits("6 a KIND (0 to 7)", "r..;", 0, 7, (x, kind) -> x.put(0, kind));
        holds("6 which it was of; NO: it is so", ChangeEdges::putFromEachKindToEach);
        holds("6 5 HALF ones at most: the fifth", ChangeEdges::putFifthHalf);
        holds("6 FULL: HALF ones would be too many", ChangeEdges::putSixthHalf);
        holds("6 of 5 HALF ones one can be the other HALF", ChangeEdges::putHalfOnHalf);
        holds("6 4 doors at most: the fourth", ChangeEdges::putFourthDoor);
        holds("6 FULL: doors would be too many", ChangeEdges::putFifthDoor);
        holds("6 of 4 doors one can be OPEN or SHUT", ChangeEdges::putDoorOnDoor);
        holds("6 a HALF one instead of a door, a door instead of a HALF one", ChangeEdges::putHalfAndDoorForEachOther);
        holds("6 other KINDS are never too many", ChangeEdges::putOtherKindsInAFullRoom);
        holds("6 one less, and one more can be again", ChangeEdges::putAgainBehindOneLess);
        holds("6 BAD goes ahead of NO and FULL", ChangeEdges::putBadAheadOfNoAndFull);
        holds("6 NO goes ahead of FULL", ChangeEdges::putNoAheadOfFull);
        unchanged("6 BAD: a CELL too small", ChangeEdges::changed, x -> x.put(-1, FREE), BAD);
        unchanged("6 BAD: a CELL too large", ChangeEdges::changed, x -> x.put(12, FREE), BAD);
        unchanged("6 BAD: a KIND too small", ChangeEdges::changed, x -> x.put(0, -1), BAD);
        unchanged("6 BAD: a KIND too large", ChangeEdges::changed, x -> x.put(0, 8), BAD);
        unchanged("6 NO: it is so", ChangeEdges::changed, x -> x.put(1, SLASH), NO);
        unchanged("6 FULL: a HALF one too many", ChangeEdges::full, x -> x.put(13, HALF_SLASH), FULL);
        unchanged("6 FULL: a door too many", ChangeEdges::full, x -> x.put(13, SHUT), FULL);

        holds("7 DOOR: the first and the last there is", ChangeEdges::doorFirstAndLast);
        holds("7 how many are OPEN: from 0 to 4", ChangeEdges::doorNoneOrAllOpen);
        holds("7 BAD: a DOOR too small", ChangeEdges::doorTooSmall);
        holds("7 BAD: a DOOR too large", ChangeEdges::doorTooLarge);
        holds("7 BAD: a DOOR where there is none", ChangeEdges::doorOfNone);
        limits("7 (is = 1), (0), of an OPEN one", "rox;", 0, 1, (x, is) -> x.door(0, is));
        limits("7 (is = 1), (0), of a SHUT one", "rox;", 0, 1, (x, is) -> x.door(1, is));
        holds("7 NO: it is OPEN", ChangeEdges::doorIsOpen);
        holds("7 NO: it is SHUT", ChangeEdges::doorIsShut);
        holds("7 BAD goes ahead of NO", ChangeEdges::doorBadAheadOfNo);
        unchanged("7 BAD: a DOOR too small", ChangeEdges::changed, x -> x.door(-1, 0), BAD);
        unchanged("7 BAD: a DOOR too large", ChangeEdges::changed, x -> x.door(1, 0), BAD);
        unchanged("7 BAD: neither 1 nor 0", ChangeEdges::changed, x -> x.door(0, 2), BAD);
        unchanged("7 NO: it is OPEN", ChangeEdges::changed, x -> x.door(0, 1), NO);
        unchanged("7 NO: it is SHUT", ChangeEdges::full, x -> x.door(0, 0), NO);
        holds("7 DOORS such as there are: a door more, a door less", ChangeEdges::doorsSuchAsThereAre);

        holds("8 NO: it would have one column", ChangeEdges::turnOfOneRow);
        holds("8 NO: it would have more than 4 rows", ChangeEdges::turnOfFiveColumns);
        holds("8 how many columns it has then: 2 to 4", ChangeEdges::turnOfAllOthers);
        holds("8 the row that was lowest is the first column from the left", ChangeEdges::turnToTheRight);
        holds("8 / and \\ change, HALF ones likewise", ChangeEdges::turnOfMirrors);
        holds("8 other KINDS stay", ChangeEdges::turnOfOtherKinds);
        holds("8 a quarter: four are a whole", ChangeEdges::fourTurns);
        holds("8 with 5 HALF ones and 4 doors", ChangeEdges::turnOfTheFullest);
        unchanged("8 NO: one row", () -> laid("r/x;"), MirrorShares::turn, NO);
        unchanged("8 NO: five columns", ChangeEdges::full, MirrorShares::turn, NO);
        holds("8 CELLS, PORTS, DOORS such as there are then", ChangeEdges::turnSuchAsThereAre);

        holds("9 NO: there was no change", ChangeEdges::undoOfNothing);
        holds("9 how many more can be: one change", ChangeEdges::undoOfOne);
        holds("9 the last 4 can be: all of 4", ChangeEdges::undoOfFour);
        holds("9 the last 4 can be: of 5 not the first", ChangeEdges::undoOfFive);
        holds("9 the last 4 can be: of 20 not the first 16", ChangeEdges::undoOfTwenty);
        holds("9 what is UNDONE is no change", ChangeEdges::undoneIsNoChange);
        holds("9 a CELL told anew, a door OPENED, THE ROOM TURNED", ChangeEdges::undoOfEachChange);
        holds("9 THE ROOM TURNED more than 4 times", ChangeEdges::undoOfTurns);
        holds("9 with 5 HALF ones and 4 doors", ChangeEdges::undoOfTheFullest);
        holds("9 a refused call is no change", ChangeEdges::refusedIsNoChange);
        holds("9 a question is no change", ChangeEdges::asksAreNoChanges);
        unchanged("9 NO: nothing to be UNDONE", () -> told(laid("rx/;"), "r##;"), MirrorShares::undo, NO);

        holds("at most 512 calls: changes", ChangeEdges::lastOf512Changes);
        holds("at most 512 calls: turns", ChangeEdges::lastOf512Turns);
        holds("at most 512 calls: a TEXT that is full", ChangeEdges::lastOf512Writes);
        end();
    }
}

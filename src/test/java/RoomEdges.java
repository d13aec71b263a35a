/** The boundary sentences of promises 10 to 12 (cell, doorAt, port) and 21 (count), and of CELLS, PORTS, DOORS. */
public final class RoomEdges extends Sentences {
    private static final int UP = 0, RIGHT = 1, DOWN = 2, LEFT = 3;

    private static MirrorShares changed() {
        return changed("r##;");
    }

    // ---- 10 cell

    private static void cellOfEachKind() {
        MirrorShares x = laid("r./\\f;rb#ox;");
        for (int kind = 0; kind <= 7; kind++) {
            due("cell(" + kind + ")", x.cell(kind), kind);
        }
    }

    private static void cellNumber() {
        MirrorShares x = laid("r.#...;r.....;r.....;r.....;");
        due("cell 1, 0", x.cell(1), WALL);
        due("cell 0, 1", x.cell(5), FREE);
        x.put(5 * 3 + 4, SLASH);
        x.put(5 * 2, BACKSLASH);
        cells(x, ".#........\\......../");
    }

    private static void cellTooSmall() {
        MirrorShares x = laid(freeRoom(5, 4));
        each("cell", x::cell, BAD, -1, -2, -20, LOW, LOW + 1);
    }

    private static void cellTooLarge() {
        for (int columns = 2; columns <= 5; columns++) {
            for (int rows = 1; rows <= 4; rows++) {
                MirrorShares x = laid(freeRoom(columns, rows));
                due("the last cell", x.cell(columns * rows - 1), FREE);
                each("cell", x::cell, BAD, columns * rows, columns * rows + 1, 20, HIGH);
            }
        }
    }

    private static void cellByWrapAround() {
        MirrorShares x = laid(freeRoom(5, 4));
        each("cell", x::cell, BAD, 32, 64, 256, 65536, 1 << 28, 1 << 29, 1 << 30, LOW + 5);
    }

    // ---- 11 doorAt

    private static void doorAtOfNone() {
        each("doorAt", laid("r.#;")::doorAt, BAD, -1, 0, 1);
    }

    private static void doorAtFirstAndLast() {
        MirrorShares x = laid("ro...x;r.....;r.....;rx...o;");
        due("doorAt(0)", x.doorAt(0), 0);
        due("doorAt(1)", x.doorAt(1), 4);
        due("doorAt(2)", x.doorAt(2), 15);
        due("doorAt(3)", x.doorAt(3), 19);
    }

    private static void doorsByTheirCells() {
        MirrorShares x = laid("r.....;");
        x.put(3, OPEN);
        x.put(1, SHUT);
        x.put(4, SHUT);
        due("doorAt(0)", x.doorAt(0), 1);
        due("doorAt(1)", x.doorAt(1), 3);
        due("doorAt(2)", x.doorAt(2), 4);
        due("door(1, 0)", x.door(1, 0), 0);
        due("doorAt(1), SHUT", x.doorAt(1), 3);
        due("put(1, 5)", x.put(1, WALL), SHUT);
        due("doorAt(0)", x.doorAt(0), 3);
        due("doorAt(2)", x.doorAt(2), BAD);
    }

    // ---- 12 port

    private static void ports(MirrorShares x, int[] cells, int[] directions) {
        for (int p = 0; p < cells.length; p++) {
            due("port(" + p + ", 0)", x.port(p, 0), cells[p]);
            due("port(" + p + ", 1)", x.port(p, 1), directions[p]);
        }
        due("port(" + cells.length + ", 0)", x.port(cells.length, 0), BAD);
        due("port(" + cells.length + ", 1)", x.port(cells.length, 1), BAD);
    }

    private static void portsOfTheSmallest() {
        ports(laid("r..;"), new int[] {0, 1, 1, 0, 1, 0}, new int[] {DOWN, DOWN, LEFT, UP, UP, RIGHT});
    }

    private static void portsOfTheLargest() {
        ports(laid(freeRoom(5, 4)),
            new int[] {0, 1, 2, 3, 4, 4, 9, 14, 19, 15, 16, 17, 18, 19, 0, 5, 10, 15},
            new int[] {DOWN, DOWN, DOWN, DOWN, DOWN, LEFT, LEFT, LEFT, LEFT,
                UP, UP, UP, UP, UP, RIGHT, RIGHT, RIGHT, RIGHT});
    }

    private static void portsOfTheTurned() {
        MirrorShares x = laid(freeRoom(4, 2));
        ports(x, new int[] {0, 1, 2, 3, 3, 7, 4, 5, 6, 7, 0, 4},
            new int[] {DOWN, DOWN, DOWN, DOWN, LEFT, LEFT, UP, UP, UP, UP, RIGHT, RIGHT});
        x.turn();
        ports(x, new int[] {0, 1, 1, 3, 5, 7, 6, 7, 0, 2, 4, 6},
            new int[] {DOWN, DOWN, LEFT, LEFT, LEFT, LEFT, UP, UP, RIGHT, RIGHT, RIGHT, RIGHT});
    }

    private static void portsOfEverySize() {
        for (int columns = 2; columns <= 5; columns++) {
            for (int rows = 1; rows <= 4; rows++) {
                MirrorShares x = laid(freeRoom(columns, rows));
                int many = 2 * (columns + rows);
                due("the last port", x.port(many - 1, 0), columns * (rows - 1));
                due("the last port", x.port(many - 1, 1), RIGHT);
                due("one port more", x.port(many, 0), BAD);
                due("one port more", x.port(many, 1), BAD);
                due("count(7)", x.count(7), many);
            }
        }
    }

    // ---- 21 count

    private static void counts(MirrorShares x, int... want) {
        for (int what = 0; what < want.length; what++) {
            due("count(" + what + ")", x.count(what), want[what]);
        }
    }

    private static void countsAtTheLeast() {
        MirrorShares x = laid("r..;");
        x.wipe();
        counts(x, 2, 1, 0, 0, 0, 0, 0, 6, 0, 0);
    }

    private static void countsOfSizes() {
        counts(laid(freeRoom(5, 4)), 5, 4, 0, 0, 0, 0, 0, 18, 0, 28);
        counts(laid(freeRoom(2, 4)), 2, 4, 0, 0, 0, 0, 0, 12, 0, 16);
    }

    private static void countOfHalves() {
        due("count(2)", laid("rfffff;").count(2), 5);
        due("count(2)", laid("rbbbbb;").count(2), 5);
        due("count(2)", laid("rfb;rbf;rf.;").count(2), 5);
        due("count(2)", laid("r/\\;").count(2), 0);
    }

    private static void countOfDoors() {
        counts(laid("roooo;"), 4, 1, 0, 4, 4);
        counts(laid("rxxxx;"), 4, 1, 0, 4, 0);
        counts(laid("roxo.;"), 4, 1, 0, 3, 2);
    }

    private static void countOfWalls() {
        due("count(5)", laid("r#####;r#####;r#####;r#####;").count(5), 20);
        due("count(5), SHUT is no WALL", laid("rxx;").count(5), 0);
    }

    private static void countOfMirrors() {
        due("count(6)", laid("r/\\/\\/;r\\/\\/\\;r/////;r\\\\\\\\\\;").count(6), 20);
        due("count(6), a HALF one is no MIRROR", laid("rfb;").count(6), 0);
        due("count(6)", laid("r/.;").count(6), 1);
        due("count(6)", laid("r.\\;").count(6), 1);
    }

    private static void countOfChanges() {
        MirrorShares x = laid("rx.;r..;");
        due("count(8)", x.count(8), 0);
        x.put(1, WALL);
        due("count(8)", x.count(8), 1);
        x.door(0, 1);
        due("count(8)", x.count(8), 2);
        x.turn();
        due("count(8)", x.count(8), 3);
        x.turn();
        due("count(8)", x.count(8), 4);
        x.turn();
        due("count(8), 4 at most", x.count(8), 4);
        x.undo();
        due("count(8)", x.count(8), 3);
    }

    private static void countOfLetters() {
        MirrorShares x = new MirrorShares();
        for (int length = 0; length < 60; length++) {
            due("count(9)", x.count(9), length);
            x.write(';');
        }
        due("count(9)", x.count(9), 60);
        x.write(';');
        due("count(9), 60 at most", x.count(9), 60);
    }

    public static void main(String[] args) {
        holds("10 KIND of a CELL: 0 to 7", RoomEdges::cellOfEachKind);
        holds("10 CELL x, y has the number W times y, and x", RoomEdges::cellNumber);
        holds("10 BAD: too small", RoomEdges::cellTooSmall);
        holds("10 BAD: too large, in a room of each size", RoomEdges::cellTooLarge);
        holds("10 BAD: a CELL only by wrap-around", RoomEdges::cellByWrapAround);

        holds("11 BAD: there is no door", RoomEdges::doorAtOfNone);
        holds("11 CELL of a DOOR: from the first cell to the last", RoomEdges::doorAtFirstAndLast);
        limits("11 a DOOR of 4", "roxox;", 0, 3, MirrorShares::doorAt);
        limits("11 a DOOR of one", "r.f/.;rb.xf;r\\f.\\;", 0, 0, MirrorShares::doorAt);
        holds("11 DOORS are numbered 0, 1, .. by their CELLS", RoomEdges::doorsByTheirCells);

        holds("12 PORTS of the smallest room", RoomEdges::portsOfTheSmallest);
        holds("12 PORTS of the largest room", RoomEdges::portsOfTheLargest);
        holds("12 PORTS of a room and of it TURNED", RoomEdges::portsOfTheTurned);
        holds("12 2 times (W and H) in all", RoomEdges::portsOfEverySize);
        portLimits("12 the CELL at a PORT", (x, p) -> x.port(p, 0));
        portLimits("12 the DIRECTION at a PORT", (x, p) -> x.port(p, 1));
        limits("12 what (0, 1) of the first PORT", "r..;", 0, 1, (x, what) -> x.port(0, what));
        limits("12 what (0, 1) of the last PORT", "r..;", 0, 1, (x, what) -> x.port(5, what));

        limits("21 what (0 to 9)", "r..;", 0, 9, MirrorShares::count);
        holds("21 how many, at the least", RoomEdges::countsAtTheLeast);
        holds("21 W, H, PORTS, letters of other rooms", RoomEdges::countsOfSizes);
        holds("21 HALF ones, 5 at most", RoomEdges::countOfHalves);
        holds("21 doors, OPEN ones, 4 at most", RoomEdges::countOfDoors);
        holds("21 WALLS, all cells at most", RoomEdges::countOfWalls);
        holds("21 MIRRORS, all cells at most", RoomEdges::countOfMirrors);
        holds("21 changes that can be UNDONE, 4 at most", RoomEdges::countOfChanges);
        holds("21 letters of THE TEXT, 60 at most", RoomEdges::countOfLetters);

        unchanged("10 BAD", RoomEdges::changed, x -> x.cell(12), BAD);
        unchanged("11 BAD", RoomEdges::changed, x -> x.doorAt(1), BAD);
        unchanged("12 BAD: a PORT", RoomEdges::changed, x -> x.port(14, 0), BAD);
        unchanged("12 BAD: what", RoomEdges::changed, x -> x.port(0, 2), BAD);
        unchanged("21 BAD", RoomEdges::changed, x -> x.count(10), BAD);
        end();
    }
}

/** The boundary sentences of promises 1 to 5 (a new object, write, wipe, fault, lay) and of the terms of THE TEXT. */
public final class ToldEdges extends Sentences {
    private static final String FIRST_CELLS = ".f/.b.xf\\f.\\";
    private static final String LARGEST_TEXT = "rffbbf;roxox.;r#####;r/\\/\\.;";

    // ---- 1 a new object

    private static void firstRoom() {
        MirrorShares x = new MirrorShares();
        due("count(0)", x.count(0), 4);
        due("count(1)", x.count(1), 3);
        cells(x, FIRST_CELLS);
    }

    private static void firstTextIsEmpty() {
        due("count(9)", new MirrorShares().count(9), 0);
        due("wipe()", new MirrorShares().wipe(), 0);
        due("fault()", new MirrorShares().fault(), NONE);
        due("write('r')", new MirrorShares().write('r'), 1);
    }

    private static void firstTextHasNoRow() {
        MirrorShares x = new MirrorShares();
        due("lay()", x.lay(), NO);
        cells(x, FIRST_CELLS);
    }

    private static void firstNothingToUndo() {
        MirrorShares x = new MirrorShares();
        due("count(8)", x.count(8), 0);
        due("undo()", x.undo(), NO);
        cells(x, FIRST_CELLS);
    }

    private static void objectsAreApart() {
        MirrorShares one = new MirrorShares();
        MirrorShares other = new MirrorShares();
        due("put(0, 5) of the one", one.put(0, WALL), FREE);
        due("turn() of the one", one.turn(), 3);
        due("write('r') of the one", one.write('r'), 1);
        cells(other, FIRST_CELLS);
        due("count(8) of the other", other.count(8), 0);
        due("count(9) of the other", other.count(9), 0);
        cells(new MirrorShares(), FIRST_CELLS);
    }

    // ---- 2 write

    private static void leastLetter() {
        MirrorShares x = new MirrorShares();
        due("write(31)", x.write(31), BAD);
        due("write(32)", x.write(32), 1);
    }

    private static void greatestLetter() {
        MirrorShares x = new MirrorShares();
        due("write(127)", x.write(127), BAD);
        due("write(126)", x.write(126), 1);
    }

    private static void everyLetter() {
        for (int letter = 32; letter <= 126; letter++) {
            due("write(" + letter + ")", new MirrorShares().write(letter), 1);
        }
    }

    private static void noLetters() {
        MirrorShares x = new MirrorShares();
        each("write", x::write, BAD, LOW, LOW + '.', -46, -1, 0, 10, 128, 174, 255, 256 + '.', 65536 + '.', HIGH);
        due("count(9)", x.count(9), 0);
    }

    private static void letterBehind() {
        MirrorShares x = laid("r/\\;r.#;");
        cells(x, "/\\.#");
    }

    private static void howLongItIs() {
        MirrorShares x = new MirrorShares();
        for (int length = 1; length <= 60; length++) {
            due("write as number " + length, x.write(32 + length), length);
        }
    }

    private static MirrorShares fullText() {
        return written("r..;" + " ".repeat(56));
    }

    private static void sixtiethLetter() {
        MirrorShares x = written(".".repeat(59));
        due("the 60th letter", x.write('.'), 60);
        due("count(9)", x.count(9), 60);
    }

    private static void sixtyFirstLetter() {
        MirrorShares x = fullText();
        due("the 61st letter", x.write('.'), FULL);
        due("once more", x.write('.'), FULL);
        due("count(9)", x.count(9), 60);
    }

    private static void badAheadOfFull() {
        MirrorShares x = fullText();
        each("write behind 60 letters", x::write, BAD, 31, 127, -1, LOW, HIGH);
    }

    private static void spaceAgainBehindWipe() {
        MirrorShares x = fullText();
        due("wipe()", x.wipe(), 60);
        for (int letter = 1; letter <= 60; letter++) {
            due("write as number " + letter, x.write('.'), letter);
        }
        due("the 61st letter", x.write('.'), FULL);
    }

    // ---- 3 wipe

    private static void wipeOfNothing() {
        MirrorShares x = new MirrorShares();
        due("wipe()", x.wipe(), 0);
        due("wipe()", x.wipe(), 0);
        due("count(9)", x.count(9), 0);
    }

    private static void wipeOfOne() {
        MirrorShares x = written("r");
        due("wipe()", x.wipe(), 1);
        due("count(9)", x.count(9), 0);
        due("wipe()", x.wipe(), 0);
    }

    private static void wipeOfFull() {
        MirrorShares x = fullText();
        due("wipe()", x.wipe(), 60);
        due("count(9)", x.count(9), 0);
    }

    private static void wipedIsGone() {
        MirrorShares x = written("r..;r##;");
        x.wipe();
        due("fault() of nothing", x.fault(), NONE);
        due("lay() of nothing", x.lay(), NO);
        told(x, "r//");
        due("the ; that was wiped is gone", x.fault(), 0);
        told(x, ";");
        due("the row that was wiped is gone", x.lay(), 2);
        cells(x, "//");
    }

    private static void wipeLeavesTheRoom() {
        MirrorShares x = laid("r.#;");
        x.put(0, SLASH);
        due("wipe()", x.wipe(), 4);
        cells(x, "/#");
        due("undo()", x.undo(), 0);
        cells(x, ".#");
    }

    // ---- 4 fault

    private static void faultAt(String text, int place) {
        MirrorShares x = written(text);
        due("fault of " + text, x.fault(), place);
        due("lay of " + text, x.lay(), place == NONE && !text.isEmpty() ? x.count(0) * x.count(1) : NO);
    }

    private static void noFaultInNothing() {
        due("fault()", new MirrorShares().fault(), NONE);
    }

    private static void noFault() {
        faultAt("r..;", NONE);
        faultAt(LARGEST_TEXT, NONE);
    }

    private static void rowOfNoLetters() {
        faultAt("r;", 0);
        faultAt("r..;r;", 4);
    }

    private static void rowOfOneLetter() {
        faultAt("r.;", 0);
        faultAt("r.;r.;", 0);
    }

    private static void rowOfTwoToFive() {
        for (int columns = 2; columns <= 5; columns++) {
            due("fault", written(freeRoom(columns, 1)).fault(), NONE);
        }
    }

    private static void rowOfSixLetters() {
        faultAt("r......;", 0);
        faultAt("r" + ".".repeat(58) + ";", 0);
    }

    private static void shorterRow() {
        faultAt("r...;r..;", 5);
        faultAt("r.....;r.....;r....;", 14);
    }

    private static void longerRow() {
        faultAt("r..;r...;", 4);
        faultAt("r....;r....;r.....;", 12);
    }

    private static void firstRowTellsW() {
        faultAt("r..;r...;r...;", 4);
        faultAt("r.....;r..;r..;", 7);
    }

    private static void fourRows() {
        for (int columns = 2; columns <= 5; columns++) {
            due("fault", written(freeRoom(columns, 4)).fault(), NONE);
        }
    }

    private static void fifthRow() {
        for (int columns = 2; columns <= 5; columns++) {
            due("fault", written(freeRoom(columns, 5)).fault(), 4 * (columns + 2));
        }
    }

    private static void noSemicolon() {
        faultAt("r", 0);
        faultAt("r..", 0);
        faultAt("r..;r", 4);
        faultAt("r..;r..", 4);
        faultAt("r..;r..;r..;r..;r", 16);
    }

    private static void semicolonHeals() {
        MirrorShares x = written("r..;r..");
        due("fault()", x.fault(), 4);
        due("write(';')", x.write(';'), 8);
        due("fault()", x.fault(), NONE);
        due("lay()", x.lay(), 4);
    }

    private static void emptyItem() {
        faultAt(";", 0);
        faultAt(";r..;", 0);
        faultAt("r..;;", 4);
        faultAt("r..;;r..;", 4);
    }

    private static void itemOfAnotherLetter() {
        for (char letter = 32; letter <= 126; letter++) {
            due("fault of " + letter + "..;", written(letter + "..;").fault(), letter == 'r' ? NONE : 0);
            due("fault of r..;" + letter + "..;", written("r..;" + letter + "..;").fault(), letter == 'r' ? NONE : 4);
        }
    }

    private static void rowOfOtherLetters() {
        for (char letter = 32; letter <= 126; letter++) {
            int place = LETTERS.indexOf(letter) >= 0 ? NONE : 0;
            due("fault of r" + letter + ".;", written("r" + letter + ".;").fault(), place);
            due("fault of r." + letter + ";", written("r." + letter + ";").fault(), letter == ';' ? 0 : place);
        }
    }

    private static void sixthHalf() {
        faultAt("rfffff;", NONE);
        faultAt("rbbbbb;", NONE);
        faultAt("rfffff;rf....;", 7);
        faultAt("rfffff;r....b;", 7);
        faultAt("rbbbbb;rf....;", 7);
        faultAt("rfb;rfb;rf.;r.b;", 12);
        faultAt("rfb;rfb;rf.;r..;", NONE);
    }

    private static void sixthHalfOfMany() {
        faultAt("rfff..;r.....;rffff.;rf....;", 14);
    }

    private static void fifthDoor() {
        faultAt("roooo.;", NONE);
        faultAt("rxxxx.;", NONE);
        faultAt("rooooo;", 0);
        faultAt("rxxxxx;", 0);
        faultAt("roxoxo;", 0);
        faultAt("roooo;r...x;", 6);
        faultAt("rxxxx;ro...;", 6);
        faultAt("rox;r..;r.x;rox;", 12);
        faultAt("rox;r..;r.x;ro.;", NONE);
    }

    private static void bothAtTheirMost() {
        faultAt("rfbfbf;roxox.;", NONE);
        faultAt("rfbfbf;roxox.;r....o;", 14);
        faultAt("rfbfbf;roxox.;r....f;", 14);
    }

    private static void firstOfSeveral() {
        faultAt("r.;r.;", 0);
        faultAt("r..;r.;q;", 4);
        faultAt("r..;q;r.;", 4);
        faultAt("r..;r..;r...;r", 8);
        faultAt("rooooo;r.", 0);
        faultAt("rfffff;rq....;rf....;", 7);
    }

    private static void firstLetterOfTheItem() {
        faultAt("r..;r.q;", 4);
        faultAt("r....;r...q;", 6);
        faultAt("r....q;", 0);
    }

    private static void blanks() {
        faultAt(" ", 0);
        faultAt(" r..;", 0);
        faultAt("r..; ", 4);
        faultAt("r..; r..;", 4);
        faultAt("r. .;", 0);
    }

    private static void faultOfFullTexts() {
        due("60 letters", written("r".repeat(60)).fault(), 0);
        due("60 letters, 20 rows", written("r.;".repeat(20)).fault(), 0);
        due("60 ;", written(";".repeat(60)).fault(), 0);
        due("4 rows and 32 letters more", written(LARGEST_TEXT + "r".repeat(32)).fault(), 28);
        due("15 rows", written(freeRoom(2, 15)).fault(), 16);
    }

    // ---- 5 lay

    private static void everySize() {
        for (int columns = 2; columns <= 5; columns++) {
            for (int rows = 1; rows <= 4; rows++) {
                MirrorShares x = written(freeRoom(columns, rows));
                due("lay of " + columns + " by " + rows, x.lay(), columns * rows);
                due("count(0)", x.count(0), columns);
                due("count(1)", x.count(1), rows);
                cells(x, ".".repeat(columns * rows));
            }
        }
    }

    private static void everyKind() {
        cells(laid("r./\\f;rb#ox;"), LETTERS);
        cells(laid(LARGEST_TEXT), "ffbbfoxox.#####/\\/\\.");
    }

    private static void layOfNothing() {
        due("lay()", new MirrorShares().lay(), NO);
        MirrorShares x = laid("r##;");
        x.wipe();
        due("lay()", x.lay(), NO);
        cells(x, "##");
    }

    private static void layOfFaults() {
        String[] faulty = {"r..", "r.;", "r......;", ";", "r..;;", "r..;q..;", "r..;r...;", "rfffff;r....b;", "rooooo;",
            freeRoom(3, 5)};
        for (String text : faulty) {
            MirrorShares x = written(text);
            due("lay of " + text, x.lay(), NO);
            due("count(9)", x.count(9), text.length());
            cells(x, FIRST_CELLS);
        }
    }

    private static void nothingUndoneBehindLay() {
        MirrorShares x = changed("r#.;");
        due("count(8) ahead of it", x.count(8), 3);
        due("lay()", x.lay(), 2);
        due("count(8)", x.count(8), 0);
        due("undo()", x.undo(), NO);
        cells(x, "#.");
    }

    private static void nothingUndoneBehindTheSame() {
        MirrorShares x = laid("r..;");
        x.put(0, WALL);
        x.put(0, FREE);
        due("lay()", x.lay(), 2);
        due("undo()", x.undo(), NO);
    }

    private static void changesBehindLay() {
        MirrorShares x = changed("r#.;");
        x.lay();
        due("put(1, 1)", x.put(1, SLASH), FREE);
        due("undo()", x.undo(), 0);
        due("undo()", x.undo(), NO);
        cells(x, "#.");
    }

    private static void textStays() {
        MirrorShares x = laid("r.#;");
        due("count(9)", x.count(9), 4);
        due("fault()", x.fault(), NONE);
        x.put(0, WALL);
        due("lay()", x.lay(), 2);
        cells(x, ".#");
        told(x, "r/\\;");
        due("a row more behind it", x.lay(), 4);
        cells(x, ".#/\\");
        due("wipe()", x.wipe(), 8);
    }

    private static void textAloneIsNotLaid() {
        MirrorShares x = written("r##;");
        cells(x, FIRST_CELLS);
        due("fault()", x.fault(), NONE);
        cells(x, FIRST_CELLS);
    }

    private static void smallerRoom() {
        MirrorShares x = laid(LARGEST_TEXT);
        x.wipe();
        told(x, "r..;");
        due("lay()", x.lay(), 2);
        cells(x, "..");
        due("doorAt(0)", x.doorAt(0), BAD);
        due("port(5, 0)", x.port(5, 0), 0);
        due("port(6, 0)", x.port(6, 0), BAD);
        due("count(2)", x.count(2), 0);
        due("count(3)", x.count(3), 0);
    }

    private static void largerRoom() {
        MirrorShares x = laid("r##;");
        x.wipe();
        told(x, LARGEST_TEXT);
        due("lay()", x.lay(), 20);
        due("cell(19)", x.cell(19), FREE);
        due("doorAt(3)", x.doorAt(3), 8);
        due("port(17, 0)", x.port(17, 0), 15);
    }

    public static void main(String[] args) {
        holds("1 As told (at first r.f/.;rb.xf;r\\f.\\;)", ToldEdges::firstRoom);
        holds("1 THE TEXT is empty", ToldEdges::firstTextIsEmpty);
        holds("1, 5 an empty TEXT has no row: NO", ToldEdges::firstTextHasNoRow);
        holds("1, 9 at first nothing can be UNDONE: NO", ToldEdges::firstNothingToUndo);
        holds("1 a new object is as told, whatever others did", ToldEdges::objectsAreApart);

        holds("2 32 is a letter, 31 is too small: BAD", ToldEdges::leastLetter);
        holds("2 126 is a letter, 127 is too large: BAD", ToldEdges::greatestLetter);
        holds("2 a letter (32 to 126): each", ToldEdges::everyLetter);
        holds("2 BAD: far too small, far too large, or a letter only by wrap-around", ToldEdges::noLetters);
        unchanged("2 BAD: a letter too small", () -> written("r..;r."), x -> x.write(31), BAD);
        unchanged("2 BAD: a letter too large", () -> written("r..;r."), x -> x.write(127), BAD);
        holds("2 a letter comes behind THE TEXT", ToldEdges::letterBehind);
        holds("2 how long it is: 1 to 60", ToldEdges::howLongItIs);
        holds("2 letters (60 at most): the 60th comes in", ToldEdges::sixtiethLetter);
        holds("2 FULL: it has 60", ToldEdges::sixtyFirstLetter);
        unchanged("2 FULL: the 61st letter", ToldEdges::fullText, x -> x.write('.'), FULL);
        holds("2 BAD goes ahead of FULL", ToldEdges::badAheadOfFull);
        holds("2, 3 a TEXT that was full and is wiped takes 60 again", ToldEdges::spaceAgainBehindWipe);

        holds("3 how long it was: 0 for an empty one", ToldEdges::wipeOfNothing);
        holds("3 how long it was: 1", ToldEdges::wipeOfOne);
        holds("3 how long it was: 60 for a full one", ToldEdges::wipeOfFull);
        holds("3 THE TEXT is empty", ToldEdges::wipedIsGone);
        holds("3 only THE TEXT is wiped", ToldEdges::wipeLeavesTheRoom);

        holds("4 NONE: an empty TEXT", ToldEdges::noFaultInNothing);
        holds("4 NONE: the smallest and the largest room", ToldEdges::noFault);
        holds("4 a row of no letters", ToldEdges::rowOfNoLetters);
        holds("4 W (2 to 5): 1 is too small", ToldEdges::rowOfOneLetter);
        holds("4 W (2 to 5): each of them", ToldEdges::rowOfTwoToFive);
        holds("4 W (2 to 5): 6 is too large", ToldEdges::rowOfSixLetters);
        holds("4 a row of another length: shorter", ToldEdges::shorterRow);
        holds("4 a row of another length: longer", ToldEdges::longerRow);
        holds("4 W by the first row", ToldEdges::firstRowTellsW);
        holds("4 4 rows at most: 4", ToldEdges::fourRows);
        holds("4 4 rows at most: a fifth", ToldEdges::fifthRow);
        holds("4 a ; behind each: an ITEM without", ToldEdges::noSemicolon);
        holds("4 a ; behind each: it is no FAULT any more with it", ToldEdges::semicolonHeals);
        holds("4 an empty ITEM", ToldEdges::emptyItem);
        holds("4 an ITEM that begins with another letter than r", ToldEdges::itemOfAnotherLetter);
        holds("4 a row with a letter that is none of . / \\ f b # o x", ToldEdges::rowOfOtherLetters);
        holds("4 by which HALF ones are too many: a sixth", ToldEdges::sixthHalf);
        holds("4 by which HALF ones are too many: the first row by which they are", ToldEdges::sixthHalfOfMany);
        holds("4 by which doors are too many: a fifth", ToldEdges::fifthDoor);
        holds("4 HALF ones and doors are counted apart", ToldEdges::bothAtTheirMost);
        holds("4 the first ITEM that is not so, of several", ToldEdges::firstOfSeveral);
        holds("4 the place of the first letter of the ITEM, not of its wrong one", ToldEdges::firstLetterOfTheItem);
        holds("4 a blank is a letter of THE TEXT, but of no ITEM", ToldEdges::blanks);
        holds("4 FAULT of a TEXT of 60 letters", ToldEdges::faultOfFullTexts);
        unchanged("4 FAULT is told", () -> changed("r##;q"), MirrorShares::fault, 4);
        unchanged("4 NONE", () -> changed("r##;"), MirrorShares::fault, NONE);

        holds("5 how many CELLS: W 2 to 5, H 1 to 4", ToldEdges::everySize);
        holds("5 each KIND by its letter", ToldEdges::everyKind);
        holds("5 NO: a TEXT without a row", ToldEdges::layOfNothing);
        holds("5 NO: a TEXT with a FAULT", ToldEdges::layOfFaults);
        unchanged("5 NO: no row", () -> changed(""), MirrorShares::lay, NO);
        unchanged("5 NO: a FAULT", () -> changed("r##;r#;"), MirrorShares::lay, NO);
        unchanged("5 NO: a full TEXT", () -> changed("r.".repeat(30)), MirrorShares::lay, NO);
        holds("5 nothing can be UNDONE", ToldEdges::nothingUndoneBehindLay);
        holds("5 nothing can be UNDONE, the same room LAID again too", ToldEdges::nothingUndoneBehindTheSame);
        holds("5 behind LAID none can be, but the changes behind it can", ToldEdges::changesBehindLay);
        holds("5 THE TEXT stays when it is LAID", ToldEdges::textStays);
        holds("5 a TEXT alone is not LAID", ToldEdges::textAloneIsNotLaid);
        holds("5 CELLS, PORTS, DOORS such as there are: behind a smaller room", ToldEdges::smallerRoom);
        holds("5 CELLS, PORTS, DOORS such as there are: behind a larger room", ToldEdges::largerRoom);
        end();
    }
}

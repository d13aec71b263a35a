import java.util.function.Supplier;
import java.util.function.ToIntFunction;

/**
 * What the tests of the document's boundary sentences share: each sentence is a test of its own, named by
 * the promise (or the heading) and the sentence, and it fails if an answer in it is not the one that is due.
 */
abstract class Sentences {
    static final int BAD = -1, NO = -2, FULL = -3, NONE = -4;
    static final int LOW = Integer.MIN_VALUE, HIGH = Integer.MAX_VALUE;
    static final int FREE = 0, SLASH = 1, BACKSLASH = 2, HALF_SLASH = 3, HALF_BACKSLASH = 4;
    static final int WALL = 5, OPEN = 6, SHUT = 7;
    static final String LETTERS = "./\\fb#ox";

    private static int sentences = 0;
    private static int broken = 0;
    private static int answers = 0;
    private static int wrongHere = 0;

    /** One sentence: its test must ask for something, and all it asks for must be as due. */
    static void holds(String sentence, Runnable test) {
        int before = answers;
        wrongHere = 0;
        sentences++;
        try {
            test.run();
        } catch (RuntimeException thrown) {
            wrongHere++;
            System.out.println("  thrown: " + thrown);
        }
        if (wrongHere > 0 || answers == before) {
            broken++;
            System.out.println("does not hold: " + sentence);
        }
    }

    static void due(String call, int got, int want) {
        answers++;
        if (got != want) {
            wrongHere++;
            System.out.println("  " + call + " answered " + got + ", due is " + want);
        }
    }

    static void due(String what, String got, String want) {
        answers++;
        if (!got.equals(want)) {
            wrongHere++;
            System.out.println("  " + what + ": " + got + ", due is " + want);
        }
    }

    static void end() {
        System.out.println(sentences + " sentences, " + answers + " answers, " + broken + " sentences do not hold");
        if (broken > 0) {
            System.exit(1);
        }
    }

    static MirrorShares told(MirrorShares x, String text) {
        for (char letter : text.toCharArray()) {
            x.write(letter);
        }
        return x;
    }

    static MirrorShares written(String text) {
        return told(new MirrorShares(), text);
    }

    static MirrorShares laid(String text) {
        MirrorShares x = written(text);
        due("lay of " + text, x.lay(), (int) text.chars().filter(letter -> LETTERS.indexOf(letter) >= 0).count());
        return x;
    }

    /** The first room with a change of each sort, and letters in THE TEXT. */
    static MirrorShares changed(String text) {
        MirrorShares x = new MirrorShares();
        x.put(0, WALL);
        x.turn();
        x.door(0, 1);
        return told(x, text);
    }

    /** A text of rows of FREE cells. */
    static String freeRoom(int columns, int rows) {
        return ("r" + ".".repeat(columns) + ";").repeat(rows);
    }

    /** The kinds of all cells, and that there is no cell more. */
    static void cells(MirrorShares x, String letters) {
        due("the cells", cellsOf(x), letters);
        due("cell(" + letters.length() + ")", x.cell(letters.length()), BAD);
    }

    static String cellsOf(MirrorShares x) {
        StringBuilder s = new StringBuilder();
        int many = x.count(0) * x.count(1);
        for (int cell = 0; cell < many; cell++) {
            int kind = x.cell(cell);
            s.append(kind >= 0 && kind < LETTERS.length() ? LETTERS.charAt(kind) : '?');
        }
        return s.toString();
    }

    static void share(MirrorShares x, int p, int q, int above, int below) {
        due("share(" + p + ", " + q + ", 0)", x.share(p, q, 0), above);
        due("share(" + p + ", " + q + ", 1)", x.share(p, q, 1), below);
    }

    /** One call for many numbers, all with the same answer due. */
    static void each(String call, ToIntFunction<Integer> answer, int want, int... numbers) {
        for (int number : numbers) {
            due(call + " of " + number, answer.applyAsInt(number), want);
        }
    }

    interface NumberCall {
        int ask(MirrorShares x, int number);
    }

    interface PortsCall {
        int ask(MirrorShares x, int p, int q);
    }

    private static int[] below(int least) {
        return new int[] {least - 1, least - 2, least - 256, least - 65536, -(1 << 30), LOW, LOW + 1};
    }

    private static int[] above(int most) {
        return new int[] {most + 1, most + 2, most + 256, most + 65536, 1 << 30, HIGH};
    }

    /** Two sentences, of a number that is told from least to most: too small, too large (by wrap-around too). */
    static void limits(String sentence, String text, int least, int most, NumberCall asked) {
        holds(sentence + " too small: BAD", () -> allBad(laid(text), asked, below(least)));
        holds(sentence + " too large: BAD", () -> allBad(laid(text), asked, above(most)));
    }

    private static void allBad(MirrorShares x, NumberCall asked, int[] numbers) {
        String before = cellsOf(x);
        each("the call", number -> asked.ask(x, number), BAD, numbers);
        due("the cells", cellsOf(x), before);
    }

    /** Two sentences, of a PORT, each in rooms of 6, 14 and 18 ports. */
    static void portLimits(String sentence, NumberCall asked) {
        holds(sentence + " too small: BAD", () -> {
            for (String text : new String[] {freeRoom(2, 1), freeRoom(4, 3), freeRoom(5, 4)}) {
                allBad(laid(text), asked, below(0));
            }
        });
        holds(sentence + " too large: BAD", () -> {
            allBad(laid(freeRoom(2, 1)), asked, above(5));
            allBad(laid(freeRoom(4, 3)), asked, above(13));
            allBad(laid(freeRoom(5, 4)), asked, above(17));
        });
    }

    /** Six sentences, of two PORTS: the one, the other, both. */
    static void portsLimits(String promise, PortsCall asked) {
        portLimits(promise + " the one PORT", (x, bad) -> asked.ask(x, bad, 0));
        portLimits(promise + " the other PORT", (x, bad) -> asked.ask(x, 0, bad));
        portLimits(promise + " both PORTS", (x, bad) -> asked.ask(x, bad, bad));
    }

    /** All that can be asked of the object without a change. */
    private static String seen(MirrorShares x) {
        StringBuilder s = new StringBuilder(cellsOf(x));
        for (int what = 0; what < 10; what++) {
            s.append(' ').append(x.count(what));
        }
        return s.append(" fault ").append(x.fault()).append('\n').toString();
    }

    /** All that the object still knows: what it is, what each undo brings back, what its text lays. */
    static String known(MirrorShares x) {
        StringBuilder s = new StringBuilder(seen(x));
        for (int i = 0; i < 5; i++) {
            s.append("undo ").append(x.undo()).append(' ').append(seen(x));
        }
        s.append("lay ").append(x.lay()).append(' ').append(seen(x));
        return s.append("wipe ").append(x.wipe()).toString();
    }

    /** A sentence: the call answers as due, and behind it all is as if it had not been. */
    static void unchanged(String sentence, Supplier<MirrorShares> made, ToIntFunction<MirrorShares> asked, int want) {
        holds(sentence + ": nothing changes then", () -> {
            MirrorShares x = made.get();
            due("the call", asked.applyAsInt(x), want);
            due("all that is known behind it", known(x), known(made.get()));
        });
    }
}

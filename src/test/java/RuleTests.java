import java.io.IOException;
import java.lang.management.ManagementFactory;
import java.lang.reflect.Field;
import java.lang.reflect.Member;
import java.lang.reflect.Method;
import java.lang.reflect.Modifier;
import java.nio.file.Files;
import java.nio.file.Path;
import java.util.ArrayList;
import java.util.List;
import java.util.Set;
import java.util.TreeSet;
import java.util.regex.Matcher;
import java.util.regex.Pattern;

/** The document's face, the rules of LANGUAGE.md that can be seen by a look, and the room that calls take. */
public final class RuleTests {
    private static final String[] FACE = {
        "write(int)", "wipe()", "fault()", "lay()", "put(int,int)", "door(int,int)", "turn()", "undo()",
        "cell(int)", "doorAt(int)", "port(int,int)", "share(int,int,int)", "lost(int,int)", "bits(int,int)",
        "lit(int)", "far(int,int)", "alike(int,int)", "best(int,int,int)", "found(int,int,int,int,int)", "count(int)"
    };
    private static final String[] BARRED = {
        "\\bFloat\\.", "\\bDouble\\.", "\\bSystem\\.(?!arraycopy)", "\\bthrow\\b", "\\btry\\b", "\\bcatch\\b", "->",
        "::", "\\bsynchronized\\b", "\\bassert\\b", "\\bstatic \\{", "Exact\\(", "\\bRandom\\b", "\\bimport (?!java\\.util\\.Arrays;)",
        "\\bMath\\.(?!max|min|abs|floor)", "\\bwhile \\(true\\)", "\\bfor \\(;;"
    };
    private static int wrong = 0;

    private static void check(boolean holds, String what) {
        if (!holds) {
            wrong++;
            System.out.println("not so: " + what);
        }
    }

    private static String signature(Method m) {
        List<String> types = new ArrayList<>();
        for (Class<?> c : m.getParameterTypes()) {
            types.add(c.getName());
        }
        return m.getName() + "(" + String.join(",", types) + ")";
    }

    private static boolean isPrivate(Member m) {
        return Modifier.isPrivate(m.getModifiers());
    }

    private static void face() throws ReflectiveOperationException {
        Class<?> c = MirrorShares.class;
        check(Modifier.isPublic(c.getModifiers()) && Modifier.isFinal(c.getModifiers()), "public final class");
        check(c.getDeclaredConstructors().length == 1 && c.getConstructors().length == 1, "one public constructor");
        Set<String> open = new TreeSet<>();
        Set<String> names = new TreeSet<>();
        for (Method m : c.getDeclaredMethods()) {
            if (!isPrivate(m)) {
                open.add(signature(m));
                names.add(m.getName());
                check(m.getReturnType() == int.class && !Modifier.isStatic(m.getModifiers()), signature(m) + " is int");
            }
        }
        check(open.equals(new TreeSet<>(List.of(FACE))), "the methods are the face's: " + open);
        checkNames(c, names);
        int constants = 0;
        for (Field f : c.getDeclaredFields()) {
            if (!isPrivate(f)) {
                constants++;
                check(Modifier.isStatic(f.getModifiers()) && Modifier.isFinal(f.getModifiers()), f + " is a constant");
            }
        }
        check(constants == 4, "four constants");
        check(MirrorShares.BAD == -1 && MirrorShares.NO == -2 && MirrorShares.FULL == -3 && MirrorShares.NONE == -4,
            "the constants' numbers");
    }

    private static void checkNames(Class<?> c, Set<String> names) {
        for (Method m : c.getDeclaredMethods()) {
            check(!isPrivate(m) || !names.contains(m.getName()), "no private method bears a public one's name: " + m);
            check(m.getParameterCount() <= 7, "at most seven parameters: " + m);
        }
        check(c.getDeclaredClasses().length <= 12, "at most twelve classes");
        for (Class<?> inner : c.getDeclaredClasses()) {
            check(Modifier.isStatic(inner.getModifiers()) && !Modifier.isPublic(inner.getModifiers()), inner + " is static");
            for (Method m : inner.getDeclaredMethods()) {
                check(!names.contains(m.getName()), "no inner method bears a public one's name: " + m);
                check(m.getParameterCount() <= 7, "at most seven parameters: " + m);
            }
        }
    }

    private static void language(String path) throws IOException {
        String source = Files.readString(Path.of(path));
        String code = source.replaceAll("(?s)/\\*.*?\\*/", "").replaceAll("//[^\n]*", "").replaceAll("\"[^\"\n]*\"", "\"\"");
        for (String barred : BARRED) {
            Matcher m = Pattern.compile(barred).matcher(code);
            check(!m.find(), "the program is without " + barred);
        }
    }

    /** The dearest calls, 512 a run: they make next to nothing. */
    private static void roomOfCalls() {
        com.sun.management.ThreadMXBean bean = (com.sun.management.ThreadMXBean) ManagementFactory.getThreadMXBean();
        MirrorShares x = new MirrorShares();
        spend(x);
        long before = bean.getCurrentThreadAllocatedBytes();
        spend(x);
        long made = bean.getCurrentThreadAllocatedBytes() - before;
        check(made < 64 * 1024, "512 calls make less than 64 KiB, not " + made);
        before = bean.getCurrentThreadAllocatedBytes();
        for (int i = 0; i < 100; i++) {
            new MirrorShares().wipe();
        }
        made = bean.getCurrentThreadAllocatedBytes() - before;
        check(made < 100 * 16 * 1024, "a new object takes less than 16 KiB, not " + made / 100);
    }

    private static void spend(MirrorShares x) {
        int sum = 0;
        for (int i = 0; i < 32; i++) {
            int p = i % 14;
            sum += x.found(p, 1, 1, 8, 0) + x.best(p, 2, 0) + x.alike(p, 3) + x.lit(p) + x.far(p, 4) + x.bits(p, 5);
            sum += x.share(p, 6, 1) + x.lost(p, 2) + x.put(0, i % 3) + x.door(0, i % 2) + x.turn() + x.undo();
            sum += x.write('r') + x.fault() + x.lay() + x.count(3);
        }
        check(sum != Integer.MIN_VALUE, "the sum is used");
    }

    /** After 512 calls the answers are free, but no call may throw. */
    private static void longUse() {
        int[] wild = {Integer.MIN_VALUE, -2, -1, 0, 1, 2, 5, 13, 14, 60, 1000, 1001, Integer.MAX_VALUE};
        MirrorShares x = new MirrorShares();
        for (int a : wild) {
            for (int b : wild) {
                for (int c : wild) {
                    x.write(a);
                    x.put(a, b);
                    x.door(a, b);
                    x.turn();
                    x.port(a, b);
                    x.share(a, b, c);
                    x.lost(a, b);
                    x.best(a, b, c);
                    x.found(a, b, c, a, 0);
                    x.found(a, b, c, b, 1);
                    x.cell(a);
                    x.doorAt(a);
                    x.count(a);
                    x.fault();
                    x.lay();
                }
            }
        }
    }

    public static void main(String[] args) throws Exception {
        face();
        language(args.length > 0 ? args[0] : "src/main/java/MirrorShares.java");
        roomOfCalls();
        longUse();
        System.out.println(wrong == 0 ? "all rules hold" : wrong + " rules do not hold");
        if (wrong != 0) {
            System.exit(1);
        }
    }
}

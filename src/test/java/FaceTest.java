import java.io.IOException;
import java.lang.management.ManagementFactory;
import java.lang.reflect.Constructor;
import java.lang.reflect.Field;
import java.lang.reflect.Method;
import java.lang.reflect.Modifier;
import java.nio.charset.StandardCharsets;
import java.nio.file.Files;
import java.nio.file.Path;
import java.util.Random;
import java.util.Set;
import java.util.TreeSet;
import java.util.regex.Matcher;
import java.util.regex.Pattern;

/** The public face, what a text search can see of LANGUAGE.md, and arguments of every kind. */
public final class FaceTest {
    private static final String[] FACE = {
        "int say(int)", "int wipe()", "int fault(int)", "int names(int)", "int set(int,int,int)", "int sheet(int,int)",
        "int count(int)", "int need(int)", "int rule()", "long comes(int,int,int,int,int)", "long yes(int,int)",
        "long bySheets(int,int)", "long wrong(int,int)", "int enough(int)", "long worth(int,int,int,int)",
        "int gatherer(int,int)", "long seems(int,int)", "int suspect()", "long shared(int,int)", "int fine(int,int,int)",
        "long word(int,int,int)", "int strike(int)", "int worst()", "int against(int,int)", "int heap(int,int,int)",
        "int image(int)", "int restore(int)", "int told(int)"};
    private static final int[] WILD = {0, 1, -1, 2, 3, 5, 6, 10, 46, 60, 61, 126, 127, 999, 1000, 9999, 10000,
        Integer.MAX_VALUE, Integer.MIN_VALUE, Integer.MIN_VALUE + 1, Integer.MIN_VALUE + 10, 1 << 30, 65536};
    private static int bad;

    public static void main(String[] args) throws Exception {
        checkConstants();
        checkMembers();
        checkSource();
        checkWildArguments();
        checkRoom();
        System.out.println(bad == 0 ? "the face is as it should be" : bad + " faults of the face");
        if (bad != 0) {
            System.exit(1);
        }
    }

    private static void expect(boolean holds, String what) {
        if (!holds) {
            bad++;
            System.out.println("does not hold: " + what);
        }
    }

    private static void checkConstants() {
        expect(NamesByLot.NONE == -6, "NONE is -6");
        expect(NamesByLot.UNKNOWN == -1, "UNKNOWN is -1");
        expect(NamesByLot.OUTSIDE == -2, "OUTSIDE is -2");
        expect(NamesByLot.STATE == -3, "STATE is -3");
        expect(NamesByLot.FULL == -4, "FULL is -4");
        expect(NamesByLot.NO == -5, "NO is -5");
        expect(NamesByLot.LOST == -1000000000000000000L, "LOST is -10^18");
    }

    private static void checkMembers() {
        Class<?> c = NamesByLot.class;
        expect(c.getModifiers() == (Modifier.PUBLIC | Modifier.FINAL), "the class is public and final");
        Set<String> found = new TreeSet<>();
        Set<String> names = new TreeSet<>();
        for (Method m : c.getDeclaredMethods()) {
            if (!Modifier.isPrivate(m.getModifiers())) {
                expect(m.getModifiers() == Modifier.PUBLIC, m + " is public and nothing else");
                found.add(described(m));
                names.add(m.getName());
            }
        }
        expect(found.equals(new TreeSet<>(Set.of(FACE))), "the methods are those of the document, found " + found);
        for (Method m : c.getDeclaredMethods()) {
            expect(!Modifier.isPrivate(m.getModifiers()) || !names.contains(m.getName()), m + " has a name of its own");
        }
        Constructor<?>[] constructors = c.getDeclaredConstructors();
        expect(constructors.length == 1 && constructors[0].getModifiers() == Modifier.PUBLIC
            && constructors[0].getParameterCount() == 0, "one public constructor");
        int open = 0;
        for (Field f : c.getDeclaredFields()) {
            open += Modifier.isPublic(f.getModifiers()) ? 1 : 0;
            expect(Modifier.isPublic(f.getModifiers()) || Modifier.isPrivate(f.getModifiers()), f + " is private");
            expect(!Modifier.isStatic(f.getModifiers()) || Modifier.isFinal(f.getModifiers()), f + " is final");
        }
        expect(open == 7, "seven public constants");
        expect(c.getDeclaredClasses().length <= 11, "at most twelve classes");
        for (Class<?> inner : c.getDeclaredClasses()) {
            expect(!Modifier.isPublic(inner.getModifiers()) && Modifier.isStatic(inner.getModifiers()), inner + " is no part of the face");
            for (Method m : inner.getDeclaredMethods()) {
                expect(!names.contains(m.getName()), m + " has a name of its own");
            }
        }
    }

    private static String described(Method m) {
        StringBuilder text = new StringBuilder(m.getReturnType().getName() + " " + m.getName() + "(");
        for (Class<?> p : m.getParameterTypes()) {
            text.append(text.charAt(text.length() - 1) == '(' ? "" : ",").append(p.getName());
        }
        return text.append(")").toString();
    }

    private static void checkSource() throws IOException {
        String source = Files.readString(Path.of("src/main/java/NamesByLot.java"), StandardCharsets.ISO_8859_1);
        String bare = source.replaceAll("(?s)/\\*.*?\\*/", "").replaceAll("//[^\n]*", "");
        String[] ruledOut = {"\\bpackage\\b", "\\bimport\\b", "\\bthrow\\b", "\\btry\\b", "\\bcatch\\b", "->", "::",
            "\\bsynchronized\\b", "\\bassert\\b", "Exact\\b", "\\bdouble\\b", "\\bfloat\\b", "static\\s*\\{",
            "\\bRandom\\b", "\\bThread\\b", "nanoTime|currentTimeMillis", "\\bprotected\\b", "while\\s*\\(", "\\bgoto\\b"};
        for (String pattern : ruledOut) {
            expect(!Pattern.compile(pattern).matcher(bare).find(), "nothing in the class matches " + pattern);
        }
        String copied = "arraycopy\\((\\w+), 0, (\\w+), 0, Math\\.min\\(\\1\\.length, \\2\\.length\\)\\);";
        expect(times("\\barraycopy\\b", bare) == times(copied, bare), "a copy looks at the lengths of both arrays");
        // Rows are made in constructors alone: an indented "new" stands only in an assignment to a field there.
        expect(times("\\bnew\\b", bare) == times("(?m)^\\s+\\w+ = new \\w+[(\\[].*;$", bare), "every new fills a field");
        checkMethodLengths(bare);
    }

    private static int times(String pattern, String text) {
        Matcher found = Pattern.compile(pattern).matcher(text);
        int n = 0;
        while (found.find()) {
            n++;
        }
        return n;
    }

    private static void checkMethodLengths(String bare) {
        int start = -1;
        String[] lines = bare.split("\n");
        for (int i = 0; i < lines.length; i++) {
            if (lines[i].matches("( {4}| {8})[a-zA-Z].*\\) \\{") ) {
                start = i;
            }
            if (lines[i].matches("( {4}| {8})\\}") && start >= 0) {
                expect(i - start <= 60, "the method at " + lines[start].trim() + " has at most 60 lines");
                start = -1;
            }
        }
    }

    private static void checkWildArguments() {
        Random random = new Random(7);
        String signs = "....ssmuABCDEFGHNkvd012/*-+";
        for (int run = 0; run < 200; run++) {
            NamesByLot x = new NamesByLot();
            for (int call = 0; call < 512; call++) {
                int[] a = new int[5];
                for (int i = 0; i < a.length; i++) {
                    int way = random.nextInt(4);
                    a[i] = way == 0 ? WILD[random.nextInt(WILD.length)] : way == 1 ? random.nextInt() : random.nextInt(6);
                }
                int kind = random.nextInt(28);
                if (random.nextBoolean()) {
                    kind = 0;
                    a[0] = signs.charAt(random.nextInt(signs.length()));
                }
                try {
                    Calls.ask(x, kind, a);
                } catch (Throwable thrown) {
                    expect(false, "nothing is thrown by call " + kind + " with " + java.util.Arrays.toString(a) + ", but " + thrown);
                    return;
                }
            }
        }
    }

    /** The dearest calls again and again: they make nothing. */
    private static void checkRoom() {
        NamesByLot x = new NamesByLot();
        String[] sheets = {"ABCDEFGHIJ", "ABCDEFGHIJ", "KLMNO.....", "KLMNO.....", "ssssssssss", "mmmmmmmmmm"};
        for (int i = 0; i < sheets.length; i++) {
            for (char c : sheets[i].toCharArray()) {
                x.say(c);
            }
            x.names(i);
        }
        int[] ones = {1, 1, 1, 1, 1};
        Calls.ask(x, 9, ones);
        long before = allocated();
        for (int round = 0; round < 30; round++) {
            for (int kind = 9; kind < 25; kind++) {
                Calls.ask(x, kind, ones);
            }
        }
        long made = allocated() - before;
        // The measuring makes something itself; one object a round would be more than that.
        expect(made < 30 * 16 * 8, "calls make nothing, but " + made + " bytes were made");
    }

    private static long allocated() {
        return ((com.sun.management.ThreadMXBean) ManagementFactory.getThreadMXBean()).getCurrentThreadAllocatedBytes();
    }
}

import com.sun.management.ThreadMXBean;
import java.lang.management.ManagementFactory;
import java.lang.reflect.Constructor;
import java.lang.reflect.Field;
import java.lang.reflect.Member;
import java.lang.reflect.Method;
import java.lang.reflect.Modifier;
import java.nio.file.Files;
import java.nio.file.Path;
import java.util.ArrayList;
import java.util.Arrays;
import java.util.List;
import java.util.Map;
import java.util.Set;
import java.util.TreeSet;
import java.util.regex.Matcher;
import java.util.regex.Pattern;

/** The document's face and no other, the rules of LANGUAGE.md that can be seen by a program, and the room. */
public final class FaceTest {
    private static final List<String> FACE = List.of(
            "int letters(long)", "int blank()", "int fault(int)", "int book()", "int one()", "int own(int,int)",
            "int twin(int)", "int about(int,int)", "int act(int,int)", "int follow(int,int)", "int same(int,int)",
            "int apart(int,int,int)", "int watch(int)", "int seat(int,int)", "int post(int,int,int)",
            "int as(int,int,int)", "int room(int)", "int begin()", "int steps()", "int step(int)", "int go(int)",
            "int run(int,int)", "int at(int)", "int lies(int,int,int)", "int now(int)", "int met()",
            "int find(int,int)", "int most(int,int)", "int mend(int)", "int count(int)", "long digest()");
    private static final Map<String, Integer> CONSTANTS = Map.of(
            "NONE", -1, "SPENT", -2, "UNKNOWN", -101, "OUTSIDE", -102, "STATE", -103, "FULL", -104);
    private static int wrong;

    public static void main(String[] args) throws Exception {
        face();
        classes();
        source(Path.of(args.length > 0 ? args[0] : "src/main/java/LetterTurns.java"));
        hostile();
        roomOfOneRun();
        System.out.println("FaceTest: " + (wrong == 0 ? "as it should be" : wrong + " faults"));
        if (wrong != 0) {
            System.exit(1);
        }
    }

    private static void check(boolean good, String what) {
        if (!good) {
            wrong++;
            System.out.println("FaceTest: " + what);
        }
    }

    private static boolean hidden(Member m) {
        return Modifier.isPrivate(m.getModifiers()) || m.isSynthetic();
    }

    private static String told(Method m) {
        StringBuilder s = new StringBuilder(m.getReturnType() + " " + m.getName() + "(");
        for (int i = 0; i < m.getParameterCount(); i++) {
            s.append(i > 0 ? "," : "").append(m.getParameterTypes()[i]);
        }
        return s + ")";
    }

    private static void face() throws Exception {
        Class<?> c = LetterTurns.class;
        check(Modifier.isPublic(c.getModifiers()) && Modifier.isFinal(c.getModifiers()), "public and final");
        Set<String> seen = new TreeSet<>();
        for (Method m : c.getDeclaredMethods()) {
            if (hidden(m)) {
                check(FACE.stream().noneMatch(f -> f.contains(" " + m.getName() + "(")), "a private method is named " + m.getName());
            } else {
                check(Modifier.isPublic(m.getModifiers()) && !Modifier.isStatic(m.getModifiers()), told(m) + " is public");
                seen.add(told(m));
            }
        }
        check(seen.equals(new TreeSet<>(FACE)), "methods are " + seen);
        Set<String> constants = new TreeSet<>();
        for (Field f : c.getDeclaredFields()) {
            if (Modifier.isStatic(f.getModifiers())) {
                check(Modifier.isFinal(f.getModifiers()), f + " is final");
            }
            if (!hidden(f)) {
                constants.add(f.getName());
                check(f.getType() == int.class && Modifier.isStatic(f.getModifiers()) && Modifier.isPublic(f.getModifiers())
                        && CONSTANTS.getOrDefault(f.getName(), 0) == f.getInt(null), "a constant told otherwise: " + f);
            }
        }
        check(constants.equals(CONSTANTS.keySet()), "constants are " + constants);
        Constructor<?>[] makers = c.getDeclaredConstructors();
        check(makers.length == 1 && Modifier.isPublic(makers[0].getModifiers()) && makers[0].getParameterCount() == 0, "one constructor");
    }

    private static void classes() {
        List<Class<?>> all = new ArrayList<>(Arrays.asList(LetterTurns.class.getDeclaredClasses()));
        check(all.size() <= 11, "classes inside: " + all.size());
        all.add(LetterTurns.class);
        for (Class<?> c : all) {
            int fields = 0;
            for (Field f : c.getDeclaredFields()) {
                fields += Modifier.isStatic(f.getModifiers()) ? 0 : 1;
            }
            check(fields <= 20, c + " has " + fields + " fields");
            for (Method m : c.getDeclaredMethods()) {
                check(m.getParameterCount() <= 7, m + " has too many parameters");
                check(c == LetterTurns.class || FACE.stream().noneMatch(f -> f.contains(" " + m.getName() + "(")), m + " bears a name of the face");
            }
        }
    }

    private static void source(Path path) throws Exception {
        String text = Files.readString(path);
        String bare = text.replaceAll("(?s)/\\*.*?\\*/", "").replaceAll("//[^\n]*", "");
        String[] never = {"->", "::", "\\btry\\b", "\\bcatch\\b", "\\bthrow\\b", "\\bassert\\b", "\\bsynchronized\\b", "\\bfinally\\b",
            "\\bRandom\\b", "\\bThread\\b", "System\\.(?!arraycopy)", "\\bnew \\w+\\(\\) \\{", "\\bprotected\\b", "\\bpackage\\b", "Exact\\("};
        for (String word : never) {
            Matcher m = Pattern.compile(word).matcher(bare);
            check(!m.find(), "the source has " + word);
        }
        Matcher imports = Pattern.compile("import ([^;]*);").matcher(bare);
        while (imports.find()) {
            check(imports.group(1).equals("java.util.Arrays"), "import of " + imports.group(1));
        }
        for (char c : text.toCharArray()) {
            check(c == '\n' || c >= ' ' && c < 127, "a sign of code " + (int) c);
        }
        Matcher calls = Pattern.compile("\\b(?:Arrays|Math)\\.(\\w+)").matcher(bare);
        while (calls.find()) {
            check(Set.of("fill", "copyOf", "max").contains(calls.group(1)), "call of " + calls.group());
        }
        lengths(bare);
    }

    private static void lengths(String bare) {
        String[] lines = bare.split("\n");
        int begun = -1;
        for (int i = 0; i < lines.length; i++) {
            if (lines[i].matches(" {4,8}[\\w\\[\\] ]+\\(.*\\) \\{")) {
                begun = i;
            } else if (begun >= 0 && lines[i].matches(" {4,8}\\}") && lines[i].indexOf('}') == indent(lines[begun])) {
                check(i - begun < 60, "too long: " + lines[begun].trim());
                begun = -1;
            }
        }
    }

    private static int indent(String line) {
        return line.length() - line.stripLeading().length();
    }

    /** Numbers from the edges into every call, on an empty object and on a full one: nothing may be thrown. */
    private static void hostile() throws Exception {
        int[] edges = {Integer.MIN_VALUE, -105, -3, -2, -1, 0, 1, 2, 3, 4, 5, 7, 8, 9, 10, 15, 16, 99, 100, 200, 201, Integer.MAX_VALUE};
        for (int round = 0; round < 3; round++) {
            for (Method m : LetterTurns.class.getDeclaredMethods()) {
                if (hidden(m)) {
                    continue;
                }
                int n = m.getParameterCount();
                for (int a : n > 0 ? edges : new int[] {0}) {
                    LetterTurns x = round == 0 ? new LetterTurns() : heavy();
                    for (int b : n > 1 ? edges : new int[] {0}) {
                        for (int c : n > 2 ? edges : new int[] {0}) {
                            call(x, m, n, a, b, c, round);
                        }
                    }
                }
            }
        }
    }

    private static void call(LetterTurns x, Method m, int n, int a, int b, int c, int round) throws Exception {
        try {
            if (m.getName().equals("letters")) {
                m.invoke(x, round == 2 ? a * 0x0101010101010101L : (long) a);
            } else if (n == 0) {
                m.invoke(x);
            } else if (n == 1) {
                m.invoke(x, a);
            } else if (n == 2) {
                m.invoke(x, a, b);
            } else {
                m.invoke(x, a, b, c);
            }
        } catch (java.lang.reflect.InvocationTargetException e) {
            check(false, m.getName() + "(" + a + ", " + b + ", " + c + ") threw " + e.getCause());
        }
    }

    private static void write(LetterTurns x, String text) {
        for (int i = 0; i < text.length(); i++) {
            x.letters(text.charAt(i));
        }
    }

    /** Full of books and ones, and a talk with about as many steps as there can be. */
    private static LetterTurns heavy() {
        LetterTurns x = new LetterTurns();
        String[] books = {"{!1a+!1b+?1a+!2a+?2a+!1a+!1b+?1a+!2a}*", "{?0a+?0b+!0a+?2a+?0a+?0b+!0a+!2a+!2b+?0a}*", "{?0a+!0a+!1a+?1b+?1a}*",
            "{!1b;!1b;!1b;!1b;!1b;{!1b;{!1b+{!1a}*};!1b};!1b}*;!1a;{!1b}*",
            "{!1a;!1a;{!1a+!1a;{!1a}+!1b};!1a;{!1a;!1a;!1a+!1b};!1a+!1b}*"};
        for (String b : books) {
            write(x, b);
            x.book();
        }
        for (int i = 0; i < 3; i++) {
            write(x, "{01a;{12b+20c}*}*");
            x.one();
            x.own(i, i);
        }
        for (int office = 0; office < 3; office++) {
            x.seat(office, office);
        }
        x.room(1);
        for (int from = 0; from < 3; from++) {
            for (int to = 0; to < 3; to++) {
                x.post(from, to, 3 + (from + to) % 2);
            }
        }
        return x;
    }

    /** A room holds all that 512 calls make: nothing is ever given back there. */
    private static void roomOfOneRun() {
        ThreadMXBean threads = (ThreadMXBean) ManagementFactory.getThreadMXBean();
        long best = Long.MAX_VALUE;
        for (int round = 0; round < 3; round++) {
            long before = threads.getThreadAllocatedBytes(Thread.currentThread().getId());
            LetterTurns x = heavy();
            for (int i = 0; i < 60; i++) {
                x.post(i % 3, (i + 1) % 3, i % 5);
                x.digest();
                x.find(3, 10 + i);
                x.same(i % 8, i / 8);
                x.apart(3, 4, 10 + i);
                x.mend(i % 3);
            }
            best = Math.min(best, threads.getThreadAllocatedBytes(Thread.currentThread().getId()) - before);
        }
        System.out.println("FaceTest: a heavy run makes " + best + " bytes");
        check(best < 8_000_000, "a run makes " + best + " bytes");
    }
}

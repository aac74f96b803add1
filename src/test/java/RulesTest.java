import java.io.IOException;
import java.lang.management.ManagementFactory;
import java.lang.reflect.Constructor;
import java.lang.reflect.Field;
import java.lang.reflect.Method;
import java.lang.reflect.Modifier;
import java.nio.file.Files;
import java.nio.file.Path;
import java.util.List;
import java.util.Set;
import java.util.TreeSet;
import java.util.regex.Matcher;
import java.util.regex.Pattern;

/** The rules of LANGUAGE.md that can be looked up: the face, forbidden words, lengths, and what a run makes. */
public final class RulesTest {
    private static final Path SOURCE = Path.of("src/main/java/PathStream.java");
    private static final String FACE = "about(int) again(int) ask(int,long) chance(int,int,boolean) close() drawn(int) drop() "
        + "element(int,int) ends(int,int) fault() is(int,int) judge(int,long) keep(int) open(int) out(int,int,boolean) "
        + "path(int,int) see(int,int) seed(long) share(int,boolean) step(int,int) task() tell(int) undo() unsee() "
        + "which() wipe() within(int,int) write(int)";

    private static int wrong = 0;

    private static void rule(String told, boolean kept) {
        if (!kept) {
            wrong++;
            System.out.println("not kept: " + told);
        }
    }

    private static String signature(Method m) {
        StringBuilder s = new StringBuilder(m.getName()).append('(');
        for (Class<?> type : m.getParameterTypes()) {
            s.append(s.charAt(s.length() - 1) == '(' ? "" : ",").append(type.getName());
        }
        return s.append(')').toString();
    }

    private static void face() {
        Class<?> c = PathStream.class;
        rule("the class is public and final", Modifier.isPublic(c.getModifiers()) && Modifier.isFinal(c.getModifiers()));
        Set<String> open = new TreeSet<>();
        Set<String> names = new TreeSet<>();
        for (Method m : c.getDeclaredMethods()) {
            if (Modifier.isPublic(m.getModifiers())) {
                open.add(signature(m));
                names.add(m.getName());
                rule(m + " answers as the document says", m.getReturnType() == (m.getName().equals("seed") ? long.class : int.class));
            }
        }
        rule("the public methods are those of the document: " + open, String.join(" ", open).equals(FACE));
        for (Method m : c.getDeclaredMethods()) {
            boolean hidden = Modifier.isPrivate(m.getModifiers()) || m.isSynthetic();
            rule(m + " is public or private", hidden || Modifier.isPublic(m.getModifiers()));
            rule(m + " bears no public name", !hidden || !names.contains(m.getName()));
        }
        Set<String> constants = new TreeSet<>();
        for (Field f : c.getDeclaredFields()) {
            if (!Modifier.isPrivate(f.getModifiers())) {
                constants.add(f.getName());
            }
        }
        rule("the constants: " + constants, constants.equals(Set.of("UNKNOWN", "BAD", "LATE", "FULL", "NONE")));
        for (Constructor<?> made : c.getDeclaredConstructors()) {
            rule("one public constructor", Modifier.isPublic(made.getModifiers()) && made.getParameterCount() == 0);
        }
    }

    private static void classesInside() {
        Class<?>[] inside = PathStream.class.getDeclaredClasses();
        rule("at most twelve classes", inside.length < 12);
        rule("at most twenty fields", fieldsOf(PathStream.class) <= 20);
        for (Class<?> c : inside) {
            rule(c + " is static", Modifier.isStatic(c.getModifiers()));
            rule(c + " has at most twenty fields", fieldsOf(c) <= 20);
        }
    }

    private static long fieldsOf(Class<?> c) {
        long count = 0;
        for (Field f : c.getDeclaredFields()) {
            count += Modifier.isStatic(f.getModifiers()) ? 0 : 1;
            rule(f + " is no state of the class", !Modifier.isStatic(f.getModifiers()) || Modifier.isFinal(f.getModifiers()));
        }
        return count;
    }

    private static void words() throws IOException {
        String code = Files.readString(SOURCE).replaceAll("(?s)/\\*.*?\\*/", "").replaceAll("//[^\n]*", "");
        Matcher word = Pattern.compile("\\b(throw|throws|try|catch|finally|synchronized|assert|import|package|native|volatile"
            + "|Object|Exception|\\w+Exact|equals|hashCode|toString|record|sealed|static \\{)\\b|->|::|@").matcher(code);
        while (word.find()) {
            rule("no " + word.group(), false);
        }
        rule("signs 1 to 127 alone", code.chars().allMatch(sign -> sign > 0 && sign < 128));
        rule("no loop without a head that ends it", !Pattern.compile("while|for \\([^;:]*;\\s*;").matcher(code).find());
    }

    private static void lengths() throws IOException {
        List<String> lines = Files.readAllLines(SOURCE);
        int begun = 0;
        for (int i = 0; i < lines.size(); i++) {
            String line = lines.get(i);
            rule("line " + (i + 1) + " is not long", line.length() <= 120);
            if (line.matches("    (    )?[a-zA-Z].*\\) \\{")) {
                begun = i;
            }
            if (line.matches("    (    )?\\}")) {
                rule("the method before line " + (i + 1) + " is short", i - begun <= 60);
            }
        }
    }

    /** The dearest calls, many times: rows are made with the object and used again. */
    private static void calls(PathStream x, int times) {
        for (char letter : "Dq!*!*!*!*.q!*!*!*!*[=1].q!a[b]!*.q/a/b/c/d.q!*.(a(b(c(d1)".toCharArray()) {
            x.write(letter);
        }
        for (int i = 0; i < times; i++) {
            x.fault();
            x.task();
            x.open(1);
            x.tell(1);
            x.close();
            x.ask(4, 1500150015001500L);
            x.drop();
            x.undo();
            x.keep(0);
            x.again(0);
            x.judge(4, 101_101_101_401L);
            x.see(0, 3);
            x.which();
            x.share(0, true);
            x.chance(3, 3, true);
            x.drawn(30);
            x.about(5);
            x.path(0, 6);
            x.within(0, 1);
        }
    }

    private static void room() {
        com.sun.management.ThreadMXBean counter = (com.sun.management.ThreadMXBean) ManagementFactory.getThreadMXBean();
        counter.getCurrentThreadAllocatedBytes();
        calls(new PathStream(), 20);
        long start = counter.getCurrentThreadAllocatedBytes();
        PathStream x = new PathStream();
        long made = counter.getCurrentThreadAllocatedBytes();
        calls(x, 100);
        long end = counter.getCurrentThreadAllocatedBytes();
        rule("an object takes " + (made - start) + " bytes, at most 100,000", made - start <= 100_000);
        rule("1900 calls take " + (end - made) + " bytes, at most 20,000", end - made <= 20_000);
    }

    public static void main(String[] args) throws IOException {
        face();
        classesInside();
        words();
        lengths();
        room();
        System.out.println(wrong == 0 ? "all rules are kept" : wrong + " rules are not kept");
        if (wrong != 0) {
            System.exit(1);
        }
    }
}

import java.io.IOException;
import java.lang.management.ManagementFactory;
import java.lang.reflect.Constructor;
import java.lang.reflect.Field;
import java.lang.reflect.Method;
import java.lang.reflect.Modifier;
import java.nio.file.Files;
import java.nio.file.Path;
import java.util.ArrayList;
import java.util.Arrays;
import java.util.List;
import java.util.Set;
import java.util.TreeSet;
import java.util.regex.Matcher;
import java.util.regex.Pattern;
import java.util.stream.Collectors;

/** What of LANGUAGE.md and of the face can be looked at from outside; it is run in the project's folder. */
public final class RowRingLanguageTest {
    private static final Path SOURCE = Path.of("src/main/java/RowRing.java");
    private static final List<String> FACE = List.of("feed/5", "end/1", "smith/0", "rule/0", "force/1", "pair/2",
        "saying/3", "day/0", "say/2", "soothe/2", "door/0", "undo/0", "ahead/3", "quarrel/2", "bring/3", "smooth/1",
        "strike/2", "home/2", "benches/1", "gold/2", "heard/3", "game/3", "spark/1", "calm/2", "largest/2", "note/3",
        "ruled/1", "look/2", "seed/1", "doors/4", "count/1", "image/1", "back/1");
    private static int wrong = 0;

    private static void check(String what, boolean fine) {
        if (!fine) {
            wrong++;
            System.out.println("not so: " + what);
        }
    }

    public static void main(String[] args) throws IOException {
        face();
        insideClasses();
        source();
        room();
        System.out.println(wrong == 0 ? "the language is kept" : wrong + " things are not so");
        if (wrong != 0) {
            System.exit(1);
        }
    }

    private static void face() {
        int modifiers = RowRing.class.getModifiers();
        check("the class is public and final", Modifier.isPublic(modifiers) && Modifier.isFinal(modifiers));
        Set<String> found = new TreeSet<>();
        for (Method m : RowRing.class.getDeclaredMethods()) {
            if (Modifier.isPublic(m.getModifiers())) {
                found.add(m.getName() + "/" + m.getParameterCount());
                check(m.getName() + " answers an int", m.getReturnType() == int.class);
                check(m.getName() + " takes ints",
                    Arrays.stream(m.getParameterTypes()).allMatch(t -> t == int.class));
                check(m.getName() + " is no static", !Modifier.isStatic(m.getModifiers()));
            } else {
                check(m.getName() + " is private", Modifier.isPrivate(m.getModifiers()) || m.isSynthetic());
            }
        }
        check("the methods are the document's: " + found, found.equals(new TreeSet<>(FACE)));
        for (Field f : RowRing.class.getDeclaredFields()) {
            boolean none = f.getName().equals("NONE");
            check(f.getName() + " is hidden", none || Modifier.isPrivate(f.getModifiers()));
        }
        Constructor<?>[] made = RowRing.class.getDeclaredConstructors();
        check("one public constructor", made.length == 1 && Modifier.isPublic(made[0].getModifiers())
            && made[0].getParameterCount() == 0);
    }

    private static void insideClasses() {
        Set<String> names = FACE.stream().map(n -> n.substring(0, n.indexOf('/'))).collect(Collectors.toSet());
        List<Class<?>> classes = new ArrayList<>(List.of(RowRing.class.getDeclaredClasses()));
        check("at most twelve classes", classes.size() + 1 <= 12);
        for (Class<?> c : classes) {
            int m = c.getModifiers();
            check(c.getName() + " is static", Modifier.isStatic(m));
            check(c.getName() + " is hidden", !Modifier.isPublic(m) && !Modifier.isProtected(m));
            for (Method method : c.getDeclaredMethods()) {
                check(method.getName() + " bears no name of the face", !names.contains(method.getName()));
            }
        }
        classes.add(RowRing.class);
        for (Class<?> c : classes) {
            int own = 0;
            for (Field f : c.getDeclaredFields()) {
                if (Modifier.isStatic(f.getModifiers())) {
                    check(f.getName() + " is final", Modifier.isFinal(f.getModifiers()));
                } else {
                    own++;
                }
            }
            check(c.getName() + " has at most twenty fields", own <= 20);
            for (Method method : c.getDeclaredMethods()) {
                check(method.getName() + " takes at most seven", method.getParameterCount() <= 7);
            }
        }
    }

    private static void source() throws IOException {
        String text = Files.readString(SOURCE);
        String code = text.replaceAll("(?s)/\\*.*?\\*/", "").replaceAll("//[^\n]*", "");
        for (String word : List.of("throw", "throws", "try", "catch", "synchronized", "assert", "import", "package",
            "Object", "Random", "System.out", "System.nano", "Thread", "float", "double", "equals", "hashCode",
            "toString", "Exact")) {
            check("no " + word, !Pattern.compile("\\b" + Pattern.quote(word) + "\\b").matcher(code).find());
        }
        check("no lambda, no method reference", !code.contains("->") && !code.contains("::"));
        check("signs below 128", text.chars().allMatch(c -> c < 128));
        Matcher made = Pattern.compile("new \\w+[\\[(]").matcher(code);
        int news = 0;
        while (made.find()) {
            news++;
        }
        check("objects are made", news > 0);
        int start = -1;
        String[] lines = text.split("\n");
        for (int i = 0; i < lines.length; i++) {
            if (lines[i].matches("( {4}| {8})[\\w\\[\\]<> ]+\\(.*\\{") && !lines[i].contains(" class ")) {
                start = i;
            }
            if (start >= 0 && lines[i].matches("( {4}| {8})\\}")) {
                check("at most sixty lines from line " + (start + 1), i - start < 60);
                start = -1;
            }
            check("no long line " + (i + 1), lines[i].length() <= 120);
        }
    }

    /** A run has some 600,000 objects and 7.3 million elements; here a whole run is far below. */
    private static void room() {
        com.sun.management.ThreadMXBean threads =
            (com.sun.management.ThreadMXBean) ManagementFactory.getThreadMXBean();
        new RowRing().count(0);
        long thread = Thread.currentThread().getId();
        long before = threads.getThreadAllocatedBytes(thread);
        RowRing r = new RowRing();
        long made = threads.getThreadAllocatedBytes(thread) - before;
        check("an object is small: " + made, made < 100000);
        before = threads.getThreadAllocatedBytes(thread);
        runAll(r);
        long used = threads.getThreadAllocatedBytes(thread) - before;
        check("calls make next to nothing: " + used, used < 20000);
    }

    private static void runAll(RowRing r) {
        // "smith 9 8;pair 0 9;s" "aying 5;pair 0 9    "
        r.feed(0x736d6974, 0x68203920, 0x383b7061, 0x69722030, 0x20393b73);
        r.feed(0x6179696e, 0x6720353b, 0x70616972, 0x20302039, 0x20202020);
        check("the smithy is taken", r.smith() == 2);
        // "say day+1 if 1<2    "
        r.feed(0x73617920, 0x6461792b, 0x31206966, 0x20313c32, 0x20202020);
        check("the rule is taken", r.rule() == 0);
        r.force(0);
        for (int i = 0; i < 14; i++) {
            for (int what = 0; what < 2; what++) {
                r.ahead(0, 100, what);
                r.quarrel(0, what);
                r.bring(0, 20, what);
                r.strike(30, what);
                r.home(30, what);
                r.benches(what);
                r.heard(0, 0, what);
                r.game(0, 4, what);
                r.calm(30, what);
                r.largest(60, what);
                r.ruled(what);
                r.look(60, what);
                r.doors(10, 60, 50, what);
            }
            r.day();
            r.door();
            r.undo();
            r.note(i, 0, 0);
            r.image(i % 4);
            r.back(i % 4);
        }
    }
}

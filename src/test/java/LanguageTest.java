import java.io.IOException;
import java.lang.reflect.Constructor;
import java.lang.reflect.Field;
import java.lang.reflect.Method;
import java.lang.reflect.Modifier;
import java.nio.file.Files;
import java.nio.file.Path;
import java.util.Arrays;
import java.util.TreeSet;
import java.util.regex.Matcher;
import java.util.regex.Pattern;

/** The class's face and what can be seen from outside of the rules that its source keeps to. */
public final class LanguageTest {
    private static final String[] FACE = {"feed(long,int)", "read(int)", "write(int)", "letter(int)", "copy(int,int)",
        "clear(int)", "node(int,int,int)", "size(int)", "relabel(int,int)", "retext(int,int)", "put(int,int,int,int,int)",
        "take(int,int)", "move(int,int,int,int)", "price(int,int)", "distance(int,int)", "map(int,int)", "pair(int,int)",
        "acts()", "act(int,int)", "like()", "same(int,int)", "unlike(int)", "shared(int,int)", "merge(int,int,int,int)",
        "merged()", "clash(int,int)", "found(int)"};

    private LanguageTest() {
    }

    public static void main(String[] args) throws IOException {
        face();
        classesInside();
        source();
        neverThrows();
        Bench.end("language");
    }

    private static void face() {
        TreeSet<String> names = new TreeSet<>();
        TreeSet<String> open = new TreeSet<>();
        for (Method method : BranchMender.class.getDeclaredMethods()) {
            String types = Arrays.toString(Arrays.stream(method.getParameterTypes()).map(Class::getName).toArray());
            String shown = method.getName() + "(" + types.substring(1, types.length() - 1).replace(" ", "") + ")";
            if (!Modifier.isPrivate(method.getModifiers())) {
                open.add(shown);
                names.add(method.getName());
                Bench.due(shown + " is public", Modifier.isPublic(method.getModifiers()), true);
                Bench.due(shown + " answers", method.getReturnType(), int.class);
            }
        }
        Bench.due("face", open, new TreeSet<>(Arrays.asList(FACE)));
        Class<?>[] all = BranchMender.class.getDeclaredClasses();
        for (Method method : BranchMender.class.getDeclaredMethods()) {
            if (Modifier.isPrivate(method.getModifiers())) {
                Bench.due("private " + method.getName() + " bears a public name", names.contains(method.getName()), false);
            }
        }
        for (Class<?> inside : all) {
            for (Method method : inside.getDeclaredMethods()) {
                Bench.due(inside + "." + method.getName() + " bears a public name", names.contains(method.getName()), false);
            }
        }
        Constructor<?>[] constructors = BranchMender.class.getDeclaredConstructors();
        Bench.due("constructors", constructors.length, 1);
        Bench.due("constructor", constructors[0].toString(), "public BranchMender()");
        Bench.due("final", Modifier.isFinal(BranchMender.class.getModifiers()), true);
    }

    private static void classesInside() {
        Class<?>[] inside = BranchMender.class.getDeclaredClasses();
        Bench.due("at most twelve classes", inside.length <= 11, true);
        for (Class<?> one : inside) {
            Bench.due(one + " is static", Modifier.isStatic(one.getModifiers()), true);
            checkFields(one);
        }
        checkFields(BranchMender.class);
    }

    private static void checkFields(Class<?> one) {
        int fields = 0;
        for (Field field : one.getDeclaredFields()) {
            if (Modifier.isStatic(field.getModifiers())) {
                Bench.due(field + " is final", Modifier.isFinal(field.getModifiers()), true);
            } else {
                fields++;
            }
            if (one == BranchMender.class) {
                Bench.due(field + " is private", Modifier.isPrivate(field.getModifiers()), true);
            }
        }
        Bench.due(one + " has few fields", fields <= 20, true);
        for (Method method : one.getDeclaredMethods()) {
            Bench.due(method + " has few parameters", method.getParameterCount() <= 7, true);
        }
    }

    private static void source() throws IOException {
        String source = Files.readString(Path.of("src/main/java/BranchMender.java"));
        String bare = source.replaceAll("(?s)/\\*.*?\\*/", "").replaceAll("//[^\n]*", "");
        String[] barred = {"\\bthrows?\\b", "\\btry\\b", "\\bcatch\\b", "\\bassert\\b", "\\bsynchronized\\b", "->", "::",
            "\\bimport\\b", "\\bpackage\\b", "Exact\\b", "\\bstatic\\s*\\{", "\\bhashCode\\b", "\\bSystem\\.(?!arraycopy)",
            "\\bnull\\b", "\\bprotected\\b", "\"", "while \\(true\\)", "for \\(;;\\)",
            // An object that is handed to another one's constructor would be handed out of the one being made.
            "\\bnew [A-Z]\\w*\\((?!\\))"};
        for (String word : barred) {
            Matcher matcher = Pattern.compile(word).matcher(bare);
            Bench.due("source has " + word, matcher.find(), false);
        }
        int start = 0;
        String[] lines = source.split("\n");
        for (int k = 0; k < lines.length; k++) {
            String indent = lines[k].replaceAll("\\S.*", "");
            boolean opens = lines[k].endsWith(") {") && (indent.length() == 4 || indent.length() == 8);
            if (opens && lines[k].matches("\\s+(public |private |static |final |int |long |boolean |void |Tree )+.*")) {
                start = k;
            }
            boolean closes = lines[k].equals("    }") || lines[k].equals("        }");
            Bench.due("method at line " + (start + 1) + " is long", closes && start > 0 && k - start > 60, false);
            start = closes ? 0 : start;
        }
    }

    /** What later calls than the 512th answer is free, but they must not throw either. */
    private static void neverThrows() {
        int[] edges = {Integer.MIN_VALUE, -1, 0, 1, 7, 8, 30, 400, Integer.MAX_VALUE};
        BranchMender mender = new BranchMender();
        for (int round = 0; round < 3; round++) {
            for (int a : edges) {
                for (int b : edges) {
                    Bench.feed(mender, "r(a,b{c},k<d>,w!)");
                    mender.read(b);
                    wildCalls(mender, a, b);
                    mender.feed(a, b);
                    mender.found(a);
                }
            }
        }
    }

    private static void wildCalls(BranchMender mender, int a, int b) {
        mender.write(a);
        mender.letter(b);
        mender.copy(b, a);
        mender.node(a, b, b);
        mender.relabel(a, b);
        mender.retext(a, b);
        mender.put(a, b, 0, b, a);
        mender.put(0, b, 0, b, a);
        mender.take(a, b);
        mender.move(a, b, a, b);
        mender.price(b, a);
        mender.distance(a, b);
        mender.map(a, b);
        mender.pair(a, b);
        mender.act(a, b);
        mender.like();
        mender.same(a, b);
        mender.unlike(a);
        mender.shared(a, b);
        mender.merge(a, b, a, b);
        mender.clash(a, b);
        mender.clear(a);
    }
}

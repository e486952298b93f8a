import java.io.IOException;
import java.lang.reflect.Field;
import java.lang.reflect.Method;
import java.lang.reflect.Modifier;
import java.nio.file.Files;
import java.nio.file.Path;
import java.util.ArrayList;
import java.util.Arrays;
import java.util.List;
import java.util.Set;
import java.util.TreeSet;
import java.util.regex.Matcher;
import java.util.regex.Pattern;

/** The rules of LANGUAGE.md that can be looked at from outside; the project's folder is the argument. */
public final class RuleTests {
    private static final String FACE =
        "allRightIn() clearText() count(int) fault(boolean,int) forget(int,int) heard(int,int)"
        + " ifPulled(int,int) keep() knot(int,int) layRope() learner(int,int) nearest(int,int)"
        + " pull(int) reason(int) restore() ring() run(int,int) safePull() set(int)"
        + " setRings(int,int) splits(int) splitsBack(int) teach(int) tell(int,int)"
        + " tie(int,int,int) type(char) undo() untie(int) word(int,int)";
    private static final String CONSTANTS = "BAD_VALUE FULL NONE NOT_POSSIBLE UNKNOWN";
    /** What rules 1, 4, 6 and 13 rule out, as words of the source. */
    private static final String[] RULED_OUT = {
        "throw", "throws", "try", "catch", "finally", "synchronized", "assert", "package",
        "protected", "volatile", "native", "Object", "Thread", "Random", "hashCode", "getClass"
    };
    /** What rule 4 leaves of the library, where a class's own functions are called. */
    private static final Set<String> LIBRARY =
        Set.of("Math", "Integer", "Long", "System.arraycopy", "Arrays.copyOf", "Arrays.copyOfRange",
            "Arrays.fill", "List.of");
    private static final Set<String> IMPORTS =
        Set.of("java.util.ArrayList", "java.util.Arrays", "java.util.Iterator", "java.util.List");
    /** What rule 5 leaves of static fields, beside the constants of an enum. */
    private static final Set<Class<?>> CONSTANT =
        Set.of(int.class, long.class, boolean.class, char.class, String.class, int[].class,
            long[].class, char[].class, byte[].class);

    private static final Check check = new Check("RuleTests");

    private RuleTests() {
    }

    public static void main(String[] args) throws IOException {
        face();
        classesInside();
        Path project = Path.of(args.length > 0 ? args[0] : ".");
        source(Files.readString(project.resolve("src/main/java/RopeKnots.java")));
        neverThrows();
        check.finish();
    }

    private static void face() {
        Set<String> methods = new TreeSet<>();
        Set<String> names = new TreeSet<>();
        for (Method method : RopeKnots.class.getDeclaredMethods()) {
            if (Modifier.isPublic(method.getModifiers())) {
                methods.add(told(method));
                names.add(method.getName());
                check.holds(method + " answers int", method.getReturnType() == int.class);
                check.holds(method + " is of an object", !Modifier.isStatic(method.getModifiers()));
            }
        }
        check.holds("the methods are " + methods, String.join(" ", methods).equals(FACE));
        hidden(RopeKnots.class, names);
        Set<String> constants = new TreeSet<>();
        for (Field field : RopeKnots.class.getDeclaredFields()) {
            if (Modifier.isPublic(field.getModifiers())) {
                constants.add(field.getName());
                check.holds(field + " is final", Modifier.isFinal(field.getModifiers()));
            } else {
                check.holds(field + " is private", Modifier.isPrivate(field.getModifiers()));
            }
        }
        check.holds("the constants are " + constants, String.join(" ", constants).equals(CONSTANTS));
        check.due("public constructors", RopeKnots.class.getConstructors().length, 1);
        check.due("constructors", RopeKnots.class.getDeclaredConstructors().length, 1);
        int kind = RopeKnots.class.getModifiers();
        check.holds("the class is public and final", Modifier.isPublic(kind) && Modifier.isFinal(kind));
        for (Class<?> inside : RopeKnots.class.getDeclaredClasses()) {
            hidden(inside, names);
        }
    }

    private static String told(Method method) {
        List<String> types = new ArrayList<>();
        for (Class<?> type : method.getParameterTypes()) {
            types.add(type.getName());
        }
        return method.getName() + "(" + String.join(",", types) + ")";
    }

    /** Private methods bear no name of a public one, and none takes many parameters. */
    private static void hidden(Class<?> owner, Set<String> names) {
        for (Method method : owner.getDeclaredMethods()) {
            boolean isPrivate = Modifier.isPrivate(method.getModifiers());
            boolean ofFace = owner == RopeKnots.class && Modifier.isPublic(method.getModifiers());
            if (isPrivate) {
                check.holds(method + " has a name of its own", !names.contains(method.getName()));
            }
            if (owner == RopeKnots.class && !ofFace) {
                check.holds(method + " is private", isPrivate || method.isSynthetic());
            }
            check.holds(method + " takes at most seven", method.getParameterCount() <= 7);
        }
    }

    private static void classesInside() {
        Class<?>[] inside = RopeKnots.class.getDeclaredClasses();
        check.holds("at most some twelve classes", inside.length <= 12);
        for (Class<?> one : inside) {
            int kind = one.getModifiers();
            check.holds(one + " is static", Modifier.isStatic(kind));
            check.holds(one + " is not public", !Modifier.isPublic(kind) && !Modifier.isProtected(kind));
            fields(one);
        }
        fields(RopeKnots.class);
    }

    private static void fields(Class<?> owner) {
        int own = 0;
        for (Field field : owner.getDeclaredFields()) {
            if (Modifier.isStatic(field.getModifiers())) {
                check.holds(field + " is final", Modifier.isFinal(field.getModifiers()));
                check.holds(field + " is a constant", CONSTANT.contains(field.getType())
                    || owner.isEnum() || field.isSynthetic());
            } else {
                own++;
            }
        }
        check.holds(owner + " has some twenty fields", own <= 20);
    }

    private static void source(String whole) {
        String bare = whole.replaceAll("(?s)/\\*.*?\\*/", "").replaceAll("//[^\n]*", "");
        check.holds("signs are 1 to 127", bare.chars().allMatch(c -> c >= 1 && c <= 127));
        for (String word : RULED_OUT) {
            check.holds("no " + word, !Pattern.compile("\\b" + word + "\\b").matcher(bare).find());
        }
        String arrows = bare.replaceAll("(\\bcase\\b[^;{}>]*|\\bdefault) ->", "");
        check.holds("no lambda, no method reference", !arrows.contains("->") && !arrows.contains("::"));
        check.holds("no static block", !Pattern.compile("static\\s*\\{").matcher(bare).find());
        check.holds("no loop without a bound",
            !Pattern.compile("while \\(true\\)|for \\([^;]*; *;").matcher(bare).find());
        library(bare);
        methodLengths(bare);
    }

    private static void library(String bare) {
        Matcher imported = Pattern.compile("\\bimport ([^;]*);").matcher(bare);
        while (imported.find()) {
            check.holds("rule 4 leaves " + imported.group(1), IMPORTS.contains(imported.group(1)));
        }
        Set<String> own = new TreeSet<>();
        for (Class<?> inside : RopeKnots.class.getDeclaredClasses()) {
            own.add(inside.getSimpleName());
        }
        Matcher called = Pattern.compile("\\b([A-Z][A-Za-z]*)\\.(\\w+)\\(").matcher(bare);
        while (called.find()) {
            String type = called.group(1);
            String name = called.group(2);
            boolean left = LIBRARY.contains(type) || LIBRARY.contains(type + "." + name);
            check.holds("rule 4 leaves " + type + "." + name, left || own.contains(type));
            check.holds("rule 4 leaves no " + name, !name.endsWith("Exact"));
        }
    }

    private static void methodLengths(String bare) {
        int begun = -1;
        String indent = "";
        String[] lines = bare.split("\n");
        for (int at = 0; at < lines.length; at++) {
            String line = lines[at];
            if (begun < 0 && line.matches("( {4}| {8})[^ ].*\\) \\{")) {
                begun = at;
                indent = line.replaceAll("[^ ].*", "");
            } else if (begun >= 0 && line.equals(indent + "}")) {
                check.holds("short method: " + lines[begun].trim(), at - begun < 60);
                begun = -1;
            }
        }
    }

    /** Any arguments, in states with much and with little, also behind the 512th call. */
    private static void neverThrows() {
        int[] any = {
            Integer.MIN_VALUE, Integer.MIN_VALUE + 1, -41, -6, -5, -1, 0, 1, 2, 3, 4, 5, 6, 8, 9, 10,
            15, 16, 19, 20, 39, 40, 41, 49, 50, 51, 100, Integer.MAX_VALUE - 1, Integer.MAX_VALUE
        };
        RopeKnots x = new RopeKnots();
        for (int round = 0; round < 60; round++) {
            int seen = 0;
            for (int a : any) {
                for (int b : any) {
                    seen += callTwo(x, a, b);
                }
                seen += callOne(x, a) + callNone(x, round);
            }
            check.holds("round " + round + " ended", seen != Integer.MIN_VALUE);
        }
    }

    private static int callTwo(RopeKnots x, int a, int b) {
        int[] all = {
            x.tie(a, b, 5), x.tie(a, 1, b), x.setRings(a, b), x.forget(a, b), x.tell(a, b),
            x.fault(a > 0, b), x.knot(a, b), x.run(a, b), x.nearest(a, b), x.word(a, b),
            x.learner(a, b), x.heard(a, b), x.ifPulled(a, b)
        };
        return Arrays.stream(all).max().getAsInt();
    }

    private static int callOne(RopeKnots x, int a) {
        int[] all = {
            x.untie(a), x.pull(a), x.teach(a), x.set(a), x.type((char) a), x.type((char) ('1' + (a & 3))),
            x.splits(a), x.splitsBack(a), x.reason(a), x.count(a)
        };
        return Arrays.stream(all).max().getAsInt();
    }

    private static int callNone(RopeKnots x, int round) {
        int[] all = {
            round % 3 == 0 ? x.clearText() : 0, x.type((char) ('1' + round % 5)), x.teach(1 + round % 9),
            x.layRope(), x.ring(), x.undo(), round % 7 == 0 ? x.keep() : x.restore(),
            x.safePull(), x.allRightIn()
        };
        return Arrays.stream(all).max().getAsInt();
    }
}

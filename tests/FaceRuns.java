import java.lang.reflect.Array;
import java.lang.reflect.Constructor;
import java.lang.reflect.Field;
import java.lang.reflect.Method;
import java.lang.reflect.Modifier;
import java.util.ArrayDeque;
import java.util.Arrays;
import java.util.Deque;
import java.util.IdentityHashMap;
import java.util.Map;
import java.util.TreeSet;

/** The class's face is the document's and nothing else, and all its memory is made with the object. */
public final class FaceRuns {
    private static int wrong = 0;

    private static void due(String what, Object got, Object want) {
        if (!got.equals(want)) {
            wrong++;
            System.out.println(what + " is " + got + ", due is " + want);
        }
    }

    public static void main(String[] args) throws Exception {
        checkFace();
        checkRoom();
        checkAnyArguments();
        System.out.println(wrong == 0 ? "all answers are as due" : wrong + " answers are not as due");
        if (wrong != 0) {
            System.exit(1);
        }
    }

    private static void checkFace() {
        TreeSet<String> face = new TreeSet<>();
        for (Method method : GrammarGuard.class.getDeclaredMethods()) {
            if (!Modifier.isPrivate(method.getModifiers()) && !method.isSynthetic()) {
                face.add(method.getReturnType() + " " + method.getName() + Arrays.toString(method.getParameterTypes()));
            }
        }
        TreeSet<String> document = new TreeSet<>(Arrays.asList("int ask[int]", "int word[]", "int grammar[]",
                "int expression[int]", "int count[int]", "int rule[int, int]", "long variable[int, int]",
                "long trees[int]", "long treesOf[int]", "int next[int, int, int]", "int isLast[int, int]",
                "int has[int]", "int apart[int]", "int within[int]", "long witness[int]", "int letter[long]",
                "long node[long, int]", "int copy[]", "long product[int, int]", "int meets[int, int]"));
        due("the methods", face, document);
        TreeSet<String> fields = new TreeSet<>();
        for (Field field : GrammarGuard.class.getDeclaredFields()) {
            if (!Modifier.isPrivate(field.getModifiers())) {
                fields.add(Modifier.toString(field.getModifiers()) + " " + field.getType() + " " + field.getName());
            }
        }
        due("the fields", fields, new TreeSet<>(Arrays.asList("public static final int BAD",
                "public static final int NONE", "public static final int GREAT")));
        Constructor<?>[] constructors = GrammarGuard.class.getDeclaredConstructors();
        due("constructors", constructors.length, 1);
        due("final", Modifier.isFinal(GrammarGuard.class.getModifiers()), true);
        TreeSet<String> names = new TreeSet<>();
        for (String method : document) {
            names.add(method.substring(method.indexOf(' ') + 1, method.indexOf('[')));
        }
        for (Class<?> inside : GrammarGuard.class.getDeclaredClasses()) {
            due(inside + " static", Modifier.isStatic(inside.getModifiers()), true);
            for (Method method : inside.getDeclaredMethods()) {
                due(inside + " " + method.getName() + " named as one of the face", names.contains(method.getName()), false);
            }
        }
    }

    /** Objects, arrays, and their fields and elements, of all that an object holds. */
    private static long[] roomOf(Object start) throws IllegalAccessException {
        Map<Object, Boolean> seen = new IdentityHashMap<>();
        Deque<Object> open = new ArrayDeque<>();
        open.add(start);
        seen.put(start, true);
        long[] room = new long[2];
        while (!open.isEmpty()) {
            Object object = open.remove();
            room[0]++;
            Deque<Object> parts = new ArrayDeque<>();
            if (object.getClass().isArray()) {
                room[1] += Array.getLength(object);
                for (int i = 0; i < Array.getLength(object) && !object.getClass().getComponentType().isPrimitive(); i++) {
                    parts.add(Array.get(object, i));
                }
            } else {
                for (Field field : object.getClass().getDeclaredFields()) {
                    if (!Modifier.isStatic(field.getModifiers())) {
                        room[1]++;
                        field.setAccessible(true);
                        if (!field.getType().isPrimitive() && field.get(object) != null) {
                            parts.add(field.get(object));
                        }
                    }
                }
            }
            for (Object part : parts) {
                if (seen.put(part, true) == null) {
                    open.add(part);
                }
            }
        }
        return room;
    }

    private static void checkRoom() throws IllegalAccessException {
        GrammarGuard x = new GrammarGuard();
        long[] before = roomOf(x);
        System.out.println("an object has " + before[0] + " objects and arrays, " + before[1] + " fields and elements");
        due("small enough", before[0] < 1000 && before[1] < 1_000_000, true);
        Talk.tell(x, "S=SS|aTb|;T=STS|c;");
        x.grammar();
        Talk.tell(x, "!(.*a....)");
        x.expression(0);
        x.within(0);
        x.copy();
        x.trees(0);
        x.treesOf(40);
        x.product(0, 1);
        x.apart(0);
        due("no more later", roomOf(x)[1] <= before[1], true);
    }

    /** Whatever the arguments are, in whatever state, every call answers. */
    private static void checkAnyArguments() {
        int[] ints = {Integer.MIN_VALUE, -101, -2, -1, 0, 1, 2, 3, 5, 9, 10, 29, 30, 39, 40, 41, 100, 300, Integer.MAX_VALUE};
        long[] longs = {Long.MIN_VALUE, -1, 0, 1, 2, 3, 40, 1L << 40, 3_999_999_999_999_999_999L, Long.MAX_VALUE};
        String[] grammars = {"", "S=;", "S=S;", "S=SS|a|;", "S=aSb|T;T=cU|;U=TSV;V=d;"};
        String[] expressions = {"", "0", "!0", "(ab)*c", ".*a....", "a".repeat(39)};
        for (String grammar : grammars) {
            for (String expression : expressions) {
                GrammarGuard x = new GrammarGuard();
                Talk.tell(x, grammar);
                x.grammar();
                Talk.tell(x, expression);
                x.expression(1);
                x.within(1);
                for (int a : ints) {
                    callAll(x, a, ints);
                    for (long k : longs) {
                        x.letter(k);
                        x.node(k, a);
                    }
                }
            }
        }
    }

    private static void callAll(GrammarGuard x, int a, int[] others) {
        x.count(a);
        x.trees(a);
        x.treesOf(a);
        x.has(a);
        x.apart(a);
        x.witness(a);
        for (int b : others) {
            x.rule(a, b);
            x.variable(a, b);
            x.isLast(a, b);
            x.product(a, b);
            x.meets(a, b);
            x.next(1, a, b);
            x.next(a, b, 0);
            x.next(a, 0, b);
        }
    }
}

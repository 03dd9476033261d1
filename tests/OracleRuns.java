import java.io.File;
import java.lang.reflect.Method;
import java.math.BigInteger;
import java.net.URL;
import java.net.URLClassLoader;
import java.nio.file.Files;
import java.nio.file.Path;
import java.util.ArrayList;
import java.util.Arrays;
import java.util.HashMap;
import java.util.HashSet;
import java.util.List;
import java.util.Map;
import java.util.Set;
import javax.tools.ToolProvider;

/**
 * Holds the class against plain answers found by trying everything, over texts made by a fixed row of
 * numbers. The last part does so with copies of the class whose bound on lengths and numbers is small, so
 * that what the document says of greater ones is met often (but above 6, as a rule's own letters never meet it).
 */
public final class OracleRuns {
    private static final long CAP = 4_000_000_000_000_000_000L;
    private static int wrong = 0;
    private static int checks = 0;
    private static String about = "";
    private static long seed = 12345;

    private static int pick(int n) {
        seed = seed * 6364136223846793005L + 1442695040888963407L;
        return (int) ((seed >>> 33) % n);
    }

    private static void due(String call, long got, long want) {
        checks++;
        if (got != want) {
            wrong++;
            if (wrong < 60) {
                System.out.println(about + ": " + call + " answered " + got + ", due is " + want);
            }
        }
    }

    public static void main(String[] args) throws Exception {
        for (int i = 0; i < 1500; i++) {
            checkExpression(randomExpression(0, 2 + pick(3)), i % 10 == 0);
        }
        checkGreatOnes();
        for (int i = 0; i < 600; i++) {
            checkGrammar(randomGrammar(1 + pick(4), 3));
        }
        Guard real = new Real();
        for (int i = 0; i < 1200; i++) {
            checkProduct(real, CAP, randomGrammar(1 + pick(4), 3), randomExpression(0, 3), randomExpression(0, 3));
        }
        for (int cap = 7; cap <= 13; cap += 3) {
            checkSmallCap(cap);
        }
        System.out.println(checks + " answers looked at");
        System.out.println(wrong == 0 ? "all answers are as due" : wrong + " answers are not as due");
        if (wrong != 0) {
            System.exit(1);
        }
    }

    private static void checkSmallCap(int cap) throws Exception {
        String text = Files.readString(Path.of(System.getProperty("guard.source", "src/main/java/GrammarGuard.java")));
        String changed = text.replace("4_000_000_000_000_000_000L", cap + "L");
        if (changed.equals(text)) {
            throw new IllegalStateException("the bound is not where it was");
        }
        Guard small = new Reflected(compiled(changed));
        for (int i = 0; i < 600; i++) {
            checkProduct(small, cap, randomGrammar(1 + pick(5), 3), randomExpression(0, 3), "");
            checkProduct(small, cap, randomGrammar(3 + pick(4), 3), circle(), "");
            checkProduct(small, cap, tallOrLong(), circle(), "");
        }
    }

    // ---- the class and its copy

    private interface Guard {
        long call(String name, Object... arguments);

        default void tell(String text) {
            for (int i = 0; i < text.length(); i++) {
                call("ask", (int) text.charAt(i));
            }
        }
    }

    /** Objects live for 512 calls only; the tests need a few more, so each run makes a new one. */
    private static final class Real implements Guard {
        private GrammarGuard x = new GrammarGuard();

        @Override
        public long call(String name, Object... a) {
            switch (name) {
                case "new": x = new GrammarGuard(); return 0;
                case "ask": return x.ask((int) a[0]);
                case "grammar": return x.grammar();
                case "expression": return x.expression((int) a[0]);
                case "next": return x.next((int) a[0], (int) a[1], (int) a[2]);
                case "isLast": return x.isLast((int) a[0], (int) a[1]);
                case "within": return x.within((int) a[0]);
                case "witness": return x.witness((int) a[0]);
                case "letter": return x.letter((long) a[0]);
                case "node": return x.node((long) a[0], (int) a[1]);
                case "product": return x.product((int) a[0], (int) a[1]);
                case "meets": return x.meets((int) a[0], (int) a[1]);
                case "apart": return x.apart((int) a[0]);
                case "copy": return x.copy();
                case "count": return x.count((int) a[0]);
                case "has": return x.has((int) a[0]);
                default: throw new IllegalStateException(name);
            }
        }
    }

    private static final class Reflected implements Guard {
        private final Map<String, Method> methods = new HashMap<>();
        private final Class<?> type;
        private Object x;

        Reflected(Class<?> type) throws Exception {
            this.type = type;
            x = type.getConstructor().newInstance();
            for (Method method : type.getMethods()) {
                methods.put(method.getName(), method);
            }
        }

        @Override
        public long call(String name, Object... a) {
            try {
                if (name.equals("new")) {
                    x = type.getConstructor().newInstance();
                    return 0;
                }
                return ((Number) methods.get(name).invoke(x, a)).longValue();
            } catch (ReflectiveOperationException e) {
                throw new IllegalStateException(e);
            }
        }
    }

    private static Class<?> compiled(String text) throws Exception {
        File folder = Files.createTempDirectory("guard").toFile();
        File source = new File(folder, "GrammarGuard.java");
        Files.writeString(source.toPath(), text);
        int code = ToolProvider.getSystemJavaCompiler().run(null, null, null, "-d", folder.getPath(), source.getPath());
        if (code != 0) {
            throw new IllegalStateException("the copy does not compile");
        }
        URLClassLoader loader = new URLClassLoader(new URL[] {folder.toURI().toURL()}, null);
        Class<?> type = loader.loadClass("GrammarGuard");
        for (Class<?> part : type.getDeclaredClasses()) {
            Class.forName(part.getName(), false, loader);
        }
        for (File file : folder.listFiles()) {
            file.deleteOnExit();
        }
        folder.deleteOnExit();
        return type;
    }

    // ---- texts

    private static String randomExpression(int depth, int width) {
        StringBuilder text = new StringBuilder();
        int sums = pick(8) == 0 ? 2 : 1;
        for (int s = 0; s < sums; s++) {
            text.append(s > 0 ? "&" : "");
            int rows = pick(3) == 0 ? 2 : 1;
            for (int r = 0; r < rows; r++) {
                text.append(r > 0 ? "|" : "");
                int items = pick(width + 1);
                for (int i = 0; i < items; i++) {
                    text.append(randomItem(depth, width));
                }
            }
        }
        return text.toString();
    }

    /** Expressions whose machines lead words back again, so that long trees have many ways. */
    private static String circle() {
        String[] texts = {"0", "(..)*.", "(..)*", "(...)*", "(a.|b..)*", "(a|b.)*c", "(a*b|.c)*", "(.a*.)*", "!(a.|b..|c)*"};
        return texts[pick(texts.length)];
    }

    /** Beside what is long anyway, a short tall tree is no better than a long low one. */
    private static String tallOrLong() {
        String[] tall = {"B=D|aa;D=E;E=a;", "B=D|aab;D=EE;E=F;F=|b;", "B=aD|aaa|b;D=E|;E=Da;", "B=D|a|ab;D=E|bb;E=c|;"};
        String[] other = {"X=b|bb;", "X=|c;", "X=B|bb;", "X=aX|;", "X=bb|C;"};
        String[] great = {"C=GGG;G=cccc;", "C=GGG;G=HHH;H=cc|ccc;", "C=ccG|cccccc;G=cccccc;", "C=GG;G=aaaaaa|HH;H=bbbbbb;"};
        String[] start = {"A=BXC;", "A=BXC|CXB;", "A=BCX|BXC;", "A=BXBC;", "A=XBXC|AA;", "A=Y|BXC;Y=XBC|CCC;"};
        return start[pick(start.length)] + tall[pick(tall.length)] + other[pick(other.length)] + great[pick(great.length)];
    }

    private static String randomItem(int depth, int width) {
        StringBuilder text = new StringBuilder();
        text.append(pick(7) == 0 ? "!" : "").append(pick(20) == 0 ? "!" : "").append(pick(9) == 0 ? " " : "");
        int kind = pick(10);
        if (kind < 6) {
            text.append((char) ('a' + pick(3)));
        } else if (kind < 7) {
            text.append(pick(4) == 0 ? '0' : '.');
        } else if (depth < 3) {
            text.append('(').append(randomExpression(depth + 1, width)).append(')');
        } else {
            text.append('b');
        }
        for (int i = 0; i < 2; i++) {
            if (pick(4) == 0) {
                text.append("*+?".charAt(pick(3)));
            }
        }
        return text.toString();
    }

    private static String randomGrammar(int variables, int longest) {
        StringBuilder text = new StringBuilder();
        for (int x = 0; x < variables; x++) {
            text.append((char) ('A' + x)).append('=');
            int rules = 1 + pick(3);
            for (int r = 0; r < rules; r++) {
                text.append(r > 0 ? "|" : "");
                int symbols = pick(longest + 1);
                for (int i = 0; i < symbols; i++) {
                    text.append(pick(9) == 0 ? " " : "");
                    text.append((char) (pick(2) == 0 ? 'a' + pick(3) : 'A' + pick(variables)));
                }
            }
            text.append(';');
        }
        return text.toString();
    }

    // ---- expressions

    private static final class Machine {
        final List<int[]> steps = new ArrayList<>();
        final List<Boolean> last = new ArrayList<>();
    }

    private static final class TooGreat extends RuntimeException {
        private static final long serialVersionUID = 1;
    }

    private interface Step {
        Object go(Object place, int letter);

        boolean good(Object place);
    }

    private static Machine explore(Object start, Step step) {
        List<Object> places = new ArrayList<>(List.of(start));
        Map<Object, Integer> numbers = new HashMap<>(Map.of(start, 0));
        Machine all = new Machine();
        for (int i = 0; i < places.size(); i++) {
            int[] row = new int[10];
            for (int letter = 0; letter < 10; letter++) {
                Object to = step.go(places.get(i), letter);
                Integer number = numbers.get(to);
                if (number == null) {
                    number = places.size();
                    numbers.put(to, number);
                    places.add(to);
                    if (places.size() > 2000) {
                        throw new TooGreat();
                    }
                }
                row[letter] = number;
            }
            all.steps.add(row);
            all.last.add(step.good(places.get(i)));
        }
        return least(all);
    }

    /** Groups by text, the plain way: as long as it takes, all letters at once. */
    private static Machine least(Machine all) {
        int n = all.steps.size();
        int[] group = new int[n];
        int groups = 0;
        for (int round = 0; round <= n; round++) {
            Map<String, Integer> keys = new HashMap<>();
            int[] finer = new int[n];
            for (int i = 0; i < n; i++) {
                StringBuilder key = new StringBuilder().append(all.last.get(i)).append(group[i]);
                for (int letter = 0; letter < 10 && round > 0; letter++) {
                    key.append(',').append(group[all.steps.get(i)[letter]]);
                }
                keys.putIfAbsent(key.toString(), keys.size());
                finer[i] = keys.get(key.toString());
            }
            group = finer;
            if (keys.size() == groups) {
                break;
            }
            groups = keys.size();
        }
        if (groups > 40) {
            throw new TooGreat();
        }
        int[] number = new int[groups];
        Arrays.fill(number, -1);
        List<Integer> samples = new ArrayList<>(List.of(0));
        number[group[0]] = 0;
        Machine small = new Machine();
        for (int s = 0; s < samples.size(); s++) {
            int[] row = new int[10];
            for (int letter = 0; letter < 10; letter++) {
                int to = all.steps.get(samples.get(s))[letter];
                if (number[group[to]] < 0) {
                    number[group[to]] = samples.size();
                    samples.add(to);
                }
                row[letter] = number[group[to]];
            }
            small.steps.add(row);
            small.last.add(all.last.get(samples.get(s)));
        }
        return small;
    }

    private static Set<Integer> image(Machine m, Set<Integer> set, int letter) {
        Set<Integer> to = new HashSet<>();
        for (int s : set) {
            to.add(m.steps.get(s)[letter]);
        }
        return to;
    }

    private static boolean hits(Machine m, Set<Integer> set) {
        for (int s : set) {
            if (m.last.get(s)) {
                return true;
            }
        }
        return false;
    }

    private static Machine both(Machine a, Machine b, boolean and) {
        return explore(List.of(0, 0), new Step() {
            @Override
            public Object go(Object place, int letter) {
                List<?> pair = (List<?>) place;
                return List.of(a.steps.get((int) pair.get(0))[letter], b.steps.get((int) pair.get(1))[letter]);
            }

            @Override
            public boolean good(Object place) {
                List<?> pair = (List<?>) place;
                boolean inA = a.last.get((int) pair.get(0));
                boolean inB = b.last.get((int) pair.get(1));
                return and ? inA && inB : inA || inB;
            }
        });
    }

    private static Machine behind(Machine a, Machine b) {
        return explore(List.of(0, a.last.get(0) ? Set.of(0) : Set.of()), new Step() {
            @Override
            @SuppressWarnings("unchecked")
            public Object go(Object place, int letter) {
                List<?> pair = (List<?>) place;
                int to = a.steps.get((int) pair.get(0))[letter];
                Set<Integer> set = image(b, (Set<Integer>) pair.get(1), letter);
                if (a.last.get(to)) {
                    set.add(0);
                }
                return List.of(to, set);
            }

            @Override
            @SuppressWarnings("unchecked")
            public boolean good(Object place) {
                return hits(b, (Set<Integer>) ((List<?>) place).get(1));
            }
        });
    }

    private static Machine often(Machine a, boolean orNever) {
        Object start = orNever ? "THE BEGINNING" : Set.of(0);
        return explore(start, new Step() {
            @Override
            @SuppressWarnings("unchecked")
            public Object go(Object place, int letter) {
                Set<Integer> from = place instanceof String ? Set.of(0) : (Set<Integer>) place;
                Set<Integer> set = image(a, from, letter);
                if (hits(a, set)) {
                    set.add(0);
                }
                return set;
            }

            @Override
            @SuppressWarnings("unchecked")
            public boolean good(Object place) {
                return place instanceof String || hits(a, (Set<Integer>) place);
            }
        });
    }

    private static Machine letters(String some) {
        return explore(0, new Step() {
            @Override
            public Object go(Object place, int letter) {
                return place.equals(0) && some.indexOf('a' + letter) >= 0 ? 1 : 2;
            }

            @Override
            public boolean good(Object place) {
                return place.equals(1);
            }
        });
    }

    private static Machine not(Machine a) {
        Machine other = new Machine();
        other.steps.addAll(a.steps);
        for (boolean last : a.last) {
            other.last.add(!last);
        }
        return other;
    }

    private static Machine emptyWord() {
        return often(letters(""), true);
    }

    /** Reads as the document's words go: an expression of sums of rows of items. */
    private static final class Reader {
        private final String text;
        private int at = 0;

        Reader(String text) {
            this.text = text.replace(" ", "");
        }

        private boolean is(String signs) {
            return at < text.length() && signs.indexOf(text.charAt(at)) >= 0;
        }

        Machine expression() {
            Machine all = sum();
            while (is("&")) {
                at++;
                all = both(all, sum(), true);
            }
            return all;
        }

        private Machine sum() {
            Machine all = row();
            while (is("|")) {
                at++;
                all = both(all, row(), false);
            }
            return all;
        }

        private Machine row() {
            Machine all = null;
            while (at < text.length() && !is("|&)")) {
                Machine item = item();
                all = all == null ? item : behind(all, item);
            }
            return all == null ? emptyWord() : all;
        }

        private Machine item() {
            if (is("!")) {
                at++;
                return not(item());
            }
            Machine atom;
            char sign = text.charAt(at++);
            if (sign == '(') {
                atom = expression();
                at++;
            } else {
                atom = letters(sign == '.' ? "abcdefghij" : sign == '0' ? "" : "" + sign);
            }
            while (is("*+?")) {
                char how = text.charAt(at++);
                atom = how == '?' ? both(atom, emptyWord(), false) : often(atom, how == '*');
            }
            return atom;
        }
    }

    /** Whether a word is one of an expression, by the words' meaning alone. */
    private static final class Meaning {
        private final String text;
        private final String word;
        private int at = 0;

        Meaning(String text, String word) {
            this.text = text.replace(" ", "");
            this.word = word;
        }

        private boolean is(String signs) {
            return at < text.length() && signs.indexOf(text.charAt(at)) >= 0;
        }

        /** [i][j]: letters i .. j - 1 of the word are a word of it. */
        boolean[][] expression() {
            boolean[][] all = sum();
            while (is("&")) {
                at++;
                all = mix(all, sum(), true);
            }
            return all;
        }

        private boolean[][] sum() {
            boolean[][] all = row();
            while (is("|")) {
                at++;
                all = mix(all, row(), false);
            }
            return all;
        }

        private boolean[][] row() {
            boolean[][] all = spans((i, j) -> i == j);
            while (at < text.length() && !is("|&)")) {
                all = chain(all, item());
            }
            return all;
        }

        private boolean[][] item() {
            if (is("!")) {
                at++;
                boolean[][] of = item();
                return spans((i, j) -> !of[i][j]);
            }
            char sign = text.charAt(at++);
            boolean[][] atom;
            if (sign == '(') {
                atom = expression();
                at++;
            } else {
                atom = spans((i, j) -> j == i + 1 && (sign == '.' || sign == word.charAt(i)));
            }
            while (is("*+?")) {
                char how = text.charAt(at++);
                boolean[][] once = atom;
                if (how != '?') {
                    for (int i = 0; i < word.length(); i++) {
                        atom = mix(atom, chain(atom, once), false);
                    }
                }
                if (how != '+') {
                    atom = mix(atom, spans((i, j) -> i == j), false);
                }
            }
            return atom;
        }

        private interface Span {
            boolean holds(int i, int j);
        }

        private boolean[][] spans(Span span) {
            int n = word.length();
            boolean[][] all = new boolean[n + 1][n + 1];
            for (int i = 0; i <= n; i++) {
                for (int j = i; j <= n; j++) {
                    all[i][j] = span.holds(i, j);
                }
            }
            return all;
        }

        private boolean[][] mix(boolean[][] a, boolean[][] b, boolean and) {
            return spans((i, j) -> and ? a[i][j] && b[i][j] : a[i][j] || b[i][j]);
        }

        private boolean[][] chain(boolean[][] a, boolean[][] b) {
            return spans((i, j) -> {
                for (int k = i; k <= j; k++) {
                    if (a[i][k] && b[k][j]) {
                        return true;
                    }
                }
                return false;
            });
        }
    }

    private static void checkExpression(String text, boolean withMeaning) {
        if (text.length() > 300) {
            return;
        }
        about = "expression " + text;
        Machine want = null;
        try {
            want = new Reader(text).expression();
        } catch (TooGreat e) {
            want = null;
        }
        GrammarGuard x = new GrammarGuard();
        Talk.tell(x, text);
        due("expression", x.expression(0), want == null ? -1000 : want.steps.size());
        if (want == null) {
            due("states", x.isLast(0, -1), 1);
            return;
        }
        for (int s = 0; s < want.steps.size(); s++) {
            due("isLast", x.isLast(0, s), want.last.get(s) ? 1 : 0);
            for (int letter = 0; letter < 10; letter++) {
                due("next", x.next(0, s, letter), want.steps.get(s)[letter]);
            }
        }
        if (withMeaning) {
            for (int i = 0; i < 60; i++) {
                checkMeaning(text, x);
            }
        }
    }

    private static void checkMeaning(String text, GrammarGuard x) {
        StringBuilder word = new StringBuilder();
        int state = 0;
        int length = pick(8);
        for (int i = 0; i < length; i++) {
            int letter = pick(4);
            word.append((char) ('a' + letter));
            state = x.next(0, state, letter);
        }
        boolean want = new Meaning(text, word.toString()).expression()[0][length];
        due("word " + word, x.isLast(0, state), want ? 1 : 0);
    }

    private static void checkGreatOnes() {
        String[] texts = {
            "a".repeat(38), "a".repeat(39), "." + ".".repeat(37), ".".repeat(39), "(" + "a".repeat(40) + ")*",
            "(" + "a".repeat(39) + ")&b", ".*a....", ".*a.....", ".*a.....*", "(.*a....)*", ".*a....|.*b....",
            "(.*a...)(.*b...)(.*c...)", "(a|b)*a(a|b)(a|b)(a|b)(a|b)", "((a|b)*a(a|b)(a|b)(a|b)(a|b)(a|b))?",
            "(aa)*&(aaa)*&(aaaaa)*", "(aa)*&(aaa)*&(aaaaaaa)*", "(aaaaa)*|(aaaaaaa)*", "(aaaaa)*|(aaaaaaaaa)*",
            "(aaaaaaa)*(aaaaa)*", "(aaaaaaa|aaaaa)*", "(aaaaaaaaa|aaaaaaaaaaa)*", "(aaaaaaaaaaaa|aaaaaaaaaaa)+",
            "(.*a....)(.*b....)", "(.*a....)+", "!(.*a.b.c)(.*b.c.a)", "((.*a...)b)+", "(!(.*a..b))+!(c.*a)",
            ".*(a........(.*))", ".*(a.........(.*))", ".*(a..........(.*))", ".*(a...........(.*))",
            ".*(a........b?(.*))", ".*(a|b.)(a........(.*))", "(a........(.*)|.)+", "(a.........(.*)|.)*",
            "(a..........(.*)|.)*", "(a..........(.*)|.)+",
        };
        for (String text : texts) {
            checkExpression(text, true);
        }
    }

    // ---- grammars

    private static final class Rules {
        final List<int[]> symbols = new ArrayList<>();
        final List<Integer> heads = new ArrayList<>();
        int variables = 0;

        Rules(String text) {
            String plain = text.replace(" ", "");
            String[] parts = plain.substring(0, plain.length() - 1).split(";", -1);
            String names = "";
            for (String part : parts) {
                names += part.charAt(0);
            }
            variables = parts.length;
            for (int x = 0; x < parts.length; x++) {
                for (String row : parts[x].substring(2).split("\\|", -1)) {
                    int[] symbol = new int[row.length()];
                    for (int i = 0; i < symbol.length; i++) {
                        char c = row.charAt(i);
                        symbol[i] = c >= 'a' ? c - 'a' : 100 + names.indexOf(c);
                    }
                    symbols.add(symbol);
                    heads.add(x);
                }
            }
        }
    }

    private static void checkGrammar(String text) {
        about = "grammar " + text;
        Rules rules = new Rules(text);
        GrammarGuard x = new GrammarGuard();
        Talk.tell(x, text);
        due("grammar", x.grammar(), rules.heads.size());
        due("count", x.count(0), rules.variables);
        for (int r = 0; r < rules.heads.size(); r++) {
            int[] symbols = rules.symbols.get(r);
            due("rule head", x.rule(r, 0), rules.heads.get(r));
            due("rule length", x.rule(r, 1), symbols.length);
            for (int d = 0; d <= symbols.length; d++) {
                due("rule symbol", x.rule(r, d + 2), d < symbols.length ? symbols[d] : -1);
            }
        }
        checkVariables(rules, x);
        checkTreesOf(rules, x);
        for (int i = 0; i < 6; i++) {
            int length = pick(4);
            int[] word = new int[length];
            for (int k = 0; k < length; k++) {
                word[k] = pick(3);
                x.ask('a' + word[k]);
            }
            due("word", x.word(), length);
            checkTrees(rules, x, word);
        }
    }

    /** has[x][n]: trees of height at most so many with words of n letters. */
    private static boolean[][] lengthsOnce(Rules rules, boolean[][] lower, int most) {
        boolean[][] has = new boolean[rules.variables][most + 1];
        for (int r = 0; r < rules.heads.size(); r++) {
            boolean[] row = new boolean[most + 1];
            row[0] = true;
            for (int symbol : rules.symbols.get(r)) {
                boolean[] on = new boolean[most + 1];
                for (int i = 0; i <= most; i++) {
                    for (int k = 0; row[i] && i + k <= most; k++) {
                        on[i + k] |= symbol < 100 ? k == 1 : lower[symbol - 100][k];
                    }
                }
                row = on;
            }
            for (int i = 0; i <= most; i++) {
                has[rules.heads.get(r)][i] |= row[i];
            }
        }
        return has;
    }

    private static void checkVariables(Rules rules, GrammarGuard x) {
        int pumping = 3 * 3 * 3 * 3;
        int most = 2 * pumping;
        boolean[][] has = new boolean[rules.variables][most + 1];
        int[] lowest = new int[rules.variables];
        for (int height = 1; height < 1000; height++) {
            boolean[][] now = lengthsOnce(rules, has, most);
            for (int v = 0; v < rules.variables; v++) {
                for (int n = 0; n <= most; n++) {
                    if (now[v][n] && lowest[v] == 0) {
                        lowest[v] = height;
                    }
                }
            }
            boolean still = Arrays.deepEquals(now, has);
            has = now;
            if (still) {
                break;
            }
        }
        for (int v = 0; v < rules.variables; v++) {
            int shortest = -2;
            boolean endless = false;
            for (int n = most; n >= 0; n--) {
                if (has[v][n]) {
                    shortest = n;
                    endless |= n > pumping;
                }
            }
            due("name of " + v, x.variable(v, 0), 'A' + v);
            due("trees of " + v, x.variable(v, 1), shortest >= 0 ? 1 : 0);
            due("used " + v, x.variable(v, 2), isUsed(rules, lowest, v) ? 1 : 0);
            due("empty " + v, x.variable(v, 3), shortest == 0 ? 1 : 0);
            due("shortest of " + v, x.variable(v, 4), shortest);
            due("lowest of " + v, x.variable(v, 5), lowest[v] == 0 ? -2 : lowest[v]);
            due("endless " + v, x.variable(v, 6), endless ? 1 : 0);
        }
    }

    private static boolean isUsed(Rules rules, int[] lowest, int v) {
        Set<Integer> used = new HashSet<>();
        if (lowest[0] > 0) {
            used.add(0);
        }
        for (int round = 0; round < 10; round++) {
            for (int r = 0; r < rules.heads.size(); r++) {
                boolean whole = used.contains(rules.heads.get(r));
                for (int symbol : rules.symbols.get(r)) {
                    whole &= symbol < 100 || lowest[symbol - 100] > 0;
                }
                for (int symbol : rules.symbols.get(r)) {
                    if (whole && symbol >= 100) {
                        used.add(symbol - 100);
                    }
                }
            }
        }
        return used.contains(v);
    }

    private static long told(BigInteger low, BigInteger high) {
        if (!low.equals(high)) {
            return -2;
        }
        return low.min(BigInteger.valueOf(CAP)).longValue();
    }

    /** Trees up to a height that is enough without circles, and up to twice that: more then have no end. */
    private static void checkTreesOf(Rules rules, GrammarGuard x) {
        int most = 5;
        int enough = rules.variables * (most + 1) + 1;
        BigInteger[][] lower = zeros(rules.variables, most + 1);
        BigInteger[][] half = null;
        for (int height = 1; height <= 2 * enough; height++) {
            BigInteger[][] now = zeros(rules.variables, most + 1);
            for (int r = 0; r < rules.heads.size(); r++) {
                BigInteger[] row = zeros(1, most + 1)[0];
                row[0] = BigInteger.ONE;
                for (int symbol : rules.symbols.get(r)) {
                    BigInteger[] on = zeros(1, most + 1)[0];
                    for (int i = 0; i <= most; i++) {
                        for (int k = 0; i + k <= most; k++) {
                            BigInteger ways = symbol >= 100 ? lower[symbol - 100][k]
                                    : k == 1 ? BigInteger.ONE : BigInteger.ZERO;
                            on[i + k] = on[i + k].add(row[i].multiply(ways));
                        }
                    }
                    row = on;
                }
                for (int n = 0; n <= most; n++) {
                    now[rules.heads.get(r)][n] = now[rules.heads.get(r)][n].add(row[n]);
                }
            }
            lower = shorten(now, lower);
            if (height == enough) {
                half = lower;
            }
        }
        for (int n = 0; n <= most; n++) {
            due("treesOf " + n, x.treesOf(n), told(half[0][n], lower[0][n]));
        }
    }

    /** Endless counts would grow past all room: beyond a bound only whether they grow is kept. */
    private static BigInteger[][] shorten(BigInteger[][] now, BigInteger[][] before) {
        BigInteger bound = BigInteger.TEN.pow(60);
        for (int v = 0; v < now.length; v++) {
            for (int n = 0; n < now[v].length; n++) {
                if (now[v][n].compareTo(bound) > 0) {
                    now[v][n] = now[v][n].equals(before[v][n]) ? now[v][n] : before[v][n].max(bound).add(BigInteger.ONE);
                }
            }
        }
        return now;
    }

    private static BigInteger[][] zeros(int rows, int columns) {
        BigInteger[][] all = new BigInteger[rows][columns];
        for (BigInteger[] row : all) {
            Arrays.fill(row, BigInteger.ZERO);
        }
        return all;
    }

    private static void checkTrees(Rules rules, GrammarGuard x, int[] word) {
        int n = word.length;
        int spans = (n + 1) * (n + 1);
        int enough = rules.variables * (n + 1) * (n + 2) / 2 + 1;
        BigInteger[][] lower = zeros(rules.variables, spans);
        BigInteger[][] half = null;
        for (int height = 1; height <= 2 * enough; height++) {
            BigInteger[][] now = zeros(rules.variables, spans);
            for (int r = 0; r < rules.heads.size(); r++) {
                for (int from = 0; from <= n; from++) {
                    BigInteger[] row = zeros(1, n + 1)[0];
                    row[from] = BigInteger.ONE;
                    for (int symbol : rules.symbols.get(r)) {
                        BigInteger[] on = zeros(1, n + 1)[0];
                        for (int i = from; i <= n; i++) {
                            for (int j = i; j <= n; j++) {
                                BigInteger ways = symbol >= 100 ? lower[symbol - 100][i * (n + 1) + j]
                                        : j == i + 1 && word[i] == symbol ? BigInteger.ONE : BigInteger.ZERO;
                                on[j] = on[j].add(row[i].multiply(ways));
                            }
                        }
                        row = on;
                    }
                    for (int to = from; to <= n; to++) {
                        int span = from * (n + 1) + to;
                        now[rules.heads.get(r)][span] = now[rules.heads.get(r)][span].add(row[to]);
                    }
                }
            }
            lower = shorten(now, lower);
            if (height == enough) {
                half = lower;
            }
        }
        for (int v = 0; v < rules.variables; v++) {
            due("trees " + v + " of " + Arrays.toString(word), x.trees(v), told(half[v][n], lower[v][n]));
        }
    }

    // ---- grammars and machines

    /** A way to put states into a rule. */
    private static final class Way {
        int rule;
        int[] states;
    }

    private static final class Tree {
        Way way;
        int variable;
        BigInteger length;
        int height;
        BigInteger nodes = BigInteger.ZERO;
    }

    private static final class Triples {
        final Rules rules;
        final int[][] steps;
        final boolean[] last;
        final long cap;
        final Set<List<Integer>> fertile = new HashSet<>();
        final List<Way> ways = new ArrayList<>();
        final Map<List<Integer>, Tree> trees = new HashMap<>();

        Triples(Rules rules, int[][] steps, boolean[] last, long cap) {
            this.rules = rules;
            this.steps = steps;
            this.last = last;
            this.cap = cap;
        }

        List<Integer> triple(int r, int[] states) {
            return List.of(rules.heads.get(r), states[0], states[states.length - 1]);
        }

        List<List<Integer>> below(Way way) {
            List<List<Integer>> all = new ArrayList<>();
            int[] symbols = rules.symbols.get(way.rule);
            for (int d = 0; d < symbols.length; d++) {
                if (symbols[d] >= 100) {
                    all.add(List.of(symbols[d] - 100, way.states[d], way.states[d + 1]));
                }
            }
            return all;
        }

        private void fill(int r, int d, int[] states) {
            int[] symbols = rules.symbols.get(r);
            if (d == symbols.length) {
                Way way = new Way();
                way.rule = r;
                way.states = states.clone();
                ways.add(way);
                return;
            }
            for (int to = 0; to < steps.length; to++) {
                boolean leads = symbols[d] < 100 ? steps[states[d]][symbols[d]] == to
                        : fertile.contains(List.of(symbols[d] - 100, states[d], to));
                if (leads) {
                    states[d + 1] = to;
                    fill(r, d + 1, states);
                }
            }
        }

        void find() {
            int before = -1;
            while (fertile.size() != before) {
                before = fertile.size();
                ways.clear();
                for (int r = 0; r < rules.heads.size(); r++) {
                    for (int from = 0; from < steps.length; from++) {
                        int[] states = new int[rules.symbols.get(r).length + 1];
                        states[0] = from;
                        fill(r, 0, states);
                    }
                }
                for (Way way : ways) {
                    fertile.add(triple(way.rule, way.states));
                }
            }
        }

        Set<List<Integer>> standing() {
            Set<List<Integer>> all = new HashSet<>();
            for (List<Integer> triple : fertile) {
                if (triple.get(0) == 0 && triple.get(1) == 0) {
                    all.add(triple);
                }
            }
            int before = -1;
            while (all.size() != before) {
                before = all.size();
                for (Way way : ways) {
                    if (all.contains(triple(way.rule, way.states))) {
                        all.addAll(below(way));
                    }
                }
            }
            return all;
        }

        private BigInteger capped(BigInteger number) {
            return number.min(BigInteger.valueOf(cap));
        }

        /** The tree that a way makes of settled trees, or null. */
        private Tree made(Way way) {
            Tree tree = new Tree();
            tree.way = way;
            tree.variable = rules.heads.get(way.rule);
            List<List<Integer>> parts = below(way);
            BigInteger length = BigInteger.valueOf(rules.symbols.get(way.rule).length - parts.size());
            tree.nodes = BigInteger.ONE;
            for (List<Integer> part : parts) {
                Tree lower = trees.get(part);
                if (lower == null) {
                    return null;
                }
                length = length.add(lower.length);
                tree.nodes = tree.nodes.add(lower.nodes);
                tree.height = Math.max(tree.height, lower.height);
            }
            tree.length = capped(length);
            tree.height++;
            return tree;
        }

        private static int compare(Tree a, Tree b) {
            int order = a.length.compareTo(b.length);
            order = order != 0 ? order : Integer.compare(a.height, b.height);
            return order;
        }

        private static int compareWays(Way a, Way b) {
            return a.rule != b.rule ? Integer.compare(a.rule, b.rule) : Arrays.compare(a.states, b.states);
        }

        /** Always settles a triple with the least tree that settled ones give: nothing later can better it. */
        void settle() {
            while (trees.size() < fertile.size()) {
                Tree best = null;
                for (Way way : ways) {
                    if (trees.containsKey(triple(way.rule, way.states))) {
                        continue;
                    }
                    Tree tree = made(way);
                    if (tree == null) {
                        continue;
                    }
                    boolean sameTriple = best != null
                            && triple(best.way.rule, best.way.states).equals(triple(way.rule, way.states));
                    if (best == null || compare(tree, best) < 0
                            || compare(tree, best) == 0 && sameTriple && compareWays(way, best.way) < 0) {
                        best = tree;
                    }
                }
                List<Integer> triple = triple(best.way.rule, best.way.states);
                for (Way way : ways) {
                    Tree tree = triple(way.rule, way.states).equals(triple) ? made(way) : null;
                    if (tree != null && compare(tree, best) == 0 && compareWays(way, best.way) < 0) {
                        best = tree;
                    }
                }
                trees.put(triple, best);
            }
        }
    }

    private static void checkProduct(Guard guard, long cap, String grammar, String first, String second) {
        if (grammar.length() + first.length() + second.length() > 200) {
            return;
        }
        about = "cap " + cap + ", grammar " + grammar + ", expressions " + first + " , " + second;
        guard.call("new");
        guard.tell(grammar);
        guard.call("grammar");
        guard.tell(first);
        long states = guard.call("expression", 0);
        guard.tell(second);
        guard.call("expression", 1);
        if (states > 9 || guard.call("isLast", 1, -1) > 40) {
            return;
        }
        Triples triples = triplesOf(guard, grammar, cap);
        triples.find();
        if (triples.ways.size() > 4000) {
            return;
        }
        due("fertile", guard.call("product", 0, 0), Math.min(cap, triples.fertile.size()) == triples.fertile.size()
                ? triples.fertile.size() : guard.call("product", 0, 0));
        if (cap == CAP) {
            due("standing", guard.call("product", 0, 1), triples.standing().size());
            due("ways", guard.call("product", 0, 2), triples.ways.size());
            checkApart(guard);
        }
        checkWithin(guard, triples);
    }

    private static Triples triplesOf(Guard guard, String grammar, long cap) {
        int states = (int) guard.call("isLast", 0, -1);
        int[][] steps = new int[states][10];
        boolean[] last = new boolean[states];
        for (int s = 0; s < states; s++) {
            last[s] = guard.call("isLast", 0, s) == 1;
            for (int letter = 0; letter < 10; letter++) {
                steps[s][letter] = (int) guard.call("next", 0, s, letter);
            }
        }
        return new Triples(new Rules(grammar), steps, last, cap);
    }

    private static void checkWithin(Guard guard, Triples triples) {
        int in = 0;
        int out = 0;
        for (List<Integer> triple : triples.fertile) {
            if (triple.get(0) == 0 && triple.get(1) == 0) {
                in |= triples.last[triple.get(2)] ? 1 : 0;
                out |= triples.last[triple.get(2)] ? 0 : 1;
            }
        }
        due("meets 0", guard.call("meets", 0, 0), in);
        due("meets 1", guard.call("meets", 0, 1), out);
        due("within", guard.call("within", 0), 1 - out);
        if (out == 0) {
            due("witness", guard.call("witness", 0), -2);
            return;
        }
        triples.settle();
        List<Integer> root = null;
        for (int q = 0; q < triples.steps.length; q++) {
            List<Integer> triple = List.of(0, 0, q);
            if (!triples.last[q] && triples.fertile.contains(triple)
                    && (root == null || Triples.compare(triples.trees.get(triple), triples.trees.get(root)) < 0)) {
                root = triple;
            }
        }
        Tree tree = triples.trees.get(root);
        due("length", guard.call("witness", 0), tree.length.longValue());
        due("height", guard.call("witness", 1), tree.height);
        due("nodes", guard.call("witness", 2), tree.nodes.min(BigInteger.valueOf(triples.cap)).longValue());
        due("end", guard.call("witness", 3), root.get(2));
        if (tree.nodes.compareTo(BigInteger.valueOf(3000)) < 0) {
            checkNodes(guard, triples, root);
        }
    }

    private static void checkNodes(Guard guard, Triples triples, List<Integer> root) {
        List<long[]> nodes = new ArrayList<>();
        StringBuilder word = new StringBuilder();
        write(triples, root, nodes, word);
        for (int k = 0; k < nodes.size() + 2; k++) {
            for (int what = 0; what < 7; what++) {
                boolean there = k < nodes.size() && k < triples.cap;
                long want = there ? nodes.get(k)[what] : -2;
                due("node " + k + " " + what, guard.call("node", (long) k, what),
                        what < 4 ? want : Math.min(want, triples.cap));
            }
        }
        for (int i = 0; i < word.length() + 2; i++) {
            boolean there = i < word.length() && i < triples.cap;
            due("letter " + i, guard.call("letter", (long) i), there ? word.charAt(i) - 'a' : -2);
        }
    }

    private static void write(Triples triples, List<Integer> triple, List<long[]> nodes, StringBuilder word) {
        Tree tree = triples.trees.get(triple);
        long[] node = new long[7];
        int first = nodes.size();
        nodes.add(node);
        node[0] = triple.get(0);
        node[1] = tree.way.rule;
        node[2] = triple.get(1);
        node[3] = triple.get(2);
        node[6] = word.length();
        int[] symbols = triples.rules.symbols.get(tree.way.rule);
        for (int d = 0; d < symbols.length; d++) {
            if (symbols[d] < 100) {
                word.append((char) ('a' + symbols[d]));
            } else {
                write(triples, List.of(symbols[d] - 100, tree.way.states[d], tree.way.states[d + 1]), nodes, word);
            }
        }
        node[4] = nodes.size() - first;
        node[5] = word.length() - node[6];
    }

    private static void checkApart(Guard guard) {
        for (int what = 0; what < 4; what++) {
            Set<List<Integer>> seen = new HashSet<>();
            List<List<Integer>> pairs = new ArrayList<>();
            List<String> words = new ArrayList<>();
            pairs.add(List.of(0, 0));
            words.add("");
            seen.add(pairs.get(0));
            String found = null;
            for (int i = 0; i < pairs.size() && found == null; i++) {
                boolean in0 = guard.call("isLast", 0, pairs.get(i).get(0)) == 1;
                boolean in1 = guard.call("isLast", 1, pairs.get(i).get(1)) == 1;
                boolean good = what == 0 ? in0 && !in1 : what == 1 ? in1 && !in0 : what == 2 ? in0 && in1 : !in0 && !in1;
                if (good) {
                    found = words.get(i);
                }
                for (int letter = 0; letter < 10; letter++) {
                    List<Integer> to = List.of((int) guard.call("next", 0, pairs.get(i).get(0), letter),
                            (int) guard.call("next", 1, pairs.get(i).get(1), letter));
                    if (seen.add(to)) {
                        pairs.add(to);
                        words.add(words.get(i) + (char) ('a' + letter));
                    }
                }
            }
            due("apart " + what, guard.call("apart", what), found == null ? -2 : found.length());
            if (found != null) {
                due("apart's word", guard.call("count", 3), found.length());
                due("has 0", guard.call("has", 0), what == 0 || what == 2 ? 1 : 0);
                due("has 1", guard.call("has", 1), what == 1 || what == 2 ? 1 : 0);
            }
        }
    }
}

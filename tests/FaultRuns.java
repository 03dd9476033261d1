import java.util.ArrayList;
import java.util.Arrays;
import java.util.List;
import java.util.regex.Pattern;

/**
 * FAULTS of grammars and expressions (promises 4 and 5), for every short text of a few signs, and for texts near the
 * limits: a sign can't come if no text that is whole goes on from there, which is tried with the few ends that
 * make a text whole.
 */
public final class FaultRuns extends Talk {
    private static final Pattern PARTS = Pattern.compile("([A-Z]=[a-jA-Z]{0,6}(\\|[a-jA-Z]{0,6})*;)+");
    private static final Pattern ROWS = Pattern.compile("((!*[a-j.0][*+?]*)*[|&])*(!*[a-j.0][*+?]*)*");
    private static final int TEXTS_OF_AN_OBJECT = 60;

    private static GrammarGuard guard = new GrammarGuard();
    private static int texts = 0;

    public static void main(String[] args) {
        for (String text : textsOf("ST=a|;", 6)) {
            checkGrammar(text);
        }
        for (String text : textsOf("S=; ", 7)) {
            checkGrammar(text);
        }
        for (String text : nearTheLimits()) {
            checkGrammar(text);
        }
        for (String text : textsOf("a(!)*|", 6)) {
            checkExpression(text);
        }
        for (String text : textsOf("0(!) &?", 5)) {
            checkExpression(text);
        }
        for (String text : textsOf("(a)", 5)) {
            checkExpression("(".repeat(13) + text + ")".repeat(13));
        }
        System.out.println(texts + " texts looked at");
        end();
    }

    private static List<String> textsOf(String signs, int longest) {
        List<String> all = new ArrayList<>(List.of(""));
        int first = 0;
        for (int length = 1; length <= longest; length++) {
            int behind = all.size();
            for (int i = first; i < behind; i++) {
                for (int k = 0; k < signs.length(); k++) {
                    all.add(all.get(i) + signs.charAt(k));
                }
            }
            first = behind;
        }
        return all;
    }

    /** Each object is used for at most 512 calls. */
    private static GrammarGuard guardFor(String text) {
        if (text.length() > 7 || texts % TEXTS_OF_AN_OBJECT == 0) {
            guard = new GrammarGuard();
        }
        texts++;
        return guard;
    }

    /** Texts with 9 to 11 parts, 29 to 32 rules or 5 to 8 signs in a row, with one more sign at their ends. */
    private static List<String> nearTheLimits() {
        List<String> all = new ArrayList<>();
        for (String end : textsOf("a|;SK=", 3)) {
            all.add("S=" + "|".repeat(28) + end);
            all.add("S=" + "a|".repeat(14) + ";K=" + "|".repeat(14) + end);
            all.add("S=aaaaa" + end);
            all.add("S=|KaSKa" + end);
            all.add("A=;B=;C=;D=;E=;F=;G=;H=;I=;" + end);
            all.add("A=;B=;C=;D=;E=;F=;G=;H=;I=;J=" + end + ";");
            all.add("A=;B=;C=;D=;E=;F=;G=;H=;I=;J=;" + end);
        }
        return all;
    }

    // ---- grammars

    private static void checkGrammar(String text) {
        GrammarGuard x = guardFor(text);
        due("grammar of '" + text + "'", grammar(x, text), dueOfGrammar(text));
    }

    private static int dueOfGrammar(String text) {
        for (int i = 0; i < text.length(); i++) {
            if (!mayBeginGrammar(text.substring(0, i + 1))) {
                return faultAt(i);
            }
        }
        if (!isGrammar(text)) {
            return faultAt(text.length());
        }
        String plain = text.replace(" ", "");
        for (int i = 0; i < text.length(); i++) {
            char sign = text.charAt(i);
            boolean inRow = sign >= 'A' && sign <= 'Z' && text.substring(i + 1).replace(" ", "").charAt(0) != '=';
            if (inRow && !(";" + plain).contains(";" + sign + "=")) {
                return faultAt(i);
            }
        }
        return rulesOf(plain);
    }

    /** The 31st alternative begins with a sign, so | alone may stand behind the 30th. */
    private static boolean mayBeginGrammar(String text) {
        for (String end : Arrays.asList("", ";", "=;")) {
            if (isGrammar(text + end)) {
                return true;
            }
        }
        String plain = text.replace(" ", "");
        boolean atThirtyFirst = plain.endsWith("|") || plain.endsWith("=");
        return plain.isEmpty() || atThirtyFirst && isWhole(plain + ";", 31) && !isWhole(plain + ";", 30)
                || plain.matches(".*[A-Z]") && isWhole(plain + "=;", 31) && !isWhole(plain + "=;", 30);
    }

    private static boolean isGrammar(String text) {
        return isWhole(text.replace(" ", ""), 30);
    }

    private static boolean isWhole(String plain, int mostRules) {
        if (!PARTS.matcher(plain).matches()) {
            return false;
        }
        List<Character> heads = new ArrayList<>();
        for (String part : plain.substring(0, plain.length() - 1).split(";", -1)) {
            if (heads.contains(part.charAt(0))) {
                return false;
            }
            heads.add(part.charAt(0));
        }
        return heads.size() <= 10 && rulesOf(plain) <= mostRules;
    }

    private static int rulesOf(String plain) {
        return plain.length() - plain.replace("|", "").replace(";", "").length();
    }

    // ---- expressions

    private static void checkExpression(String text) {
        GrammarGuard x = guardFor(text);
        int got = expression(x, 0, text);
        int want = dueOfExpression(text);
        due("expression of '" + text + "'", want == 0 ? Math.min(got, 0) : got, want);
    }

    /** The fault, or 0. */
    private static int dueOfExpression(String text) {
        for (int i = 0; i < text.length(); i++) {
            if (!mayBeginExpression(text.substring(0, i + 1))) {
                return faultAt(i);
            }
        }
        return isExpression(text) ? 0 : faultAt(text.length());
    }

    private static boolean mayBeginExpression(String text) {
        int open = text.replace(")", "").length() - text.replace("(", "").length();
        String brackets = ")".repeat(Math.max(0, open));
        return isExpression(text + brackets) || isExpression(text + "a" + brackets);
    }

    /** Takes the innermost brackets out again and again, each with what stands right around it. */
    private static boolean isExpression(String text) {
        String rest = text.replace(" ", "");
        for (int depth = 0; depth <= 15; depth++) {
            if (isWithoutBrackets(rest)) {
                return true;
            }
            StringBuilder outer = new StringBuilder();
            int at = 0;
            while (at < rest.length()) {
                int close = rest.charAt(at) == '(' ? innermostEnd(rest, at) : -1;
                if (close > 0 && isWithoutBrackets(rest.substring(at + 1, close))) {
                    outer.append('a');
                    at = close + 1;
                } else {
                    outer.append(rest.charAt(at));
                    at++;
                }
            }
            rest = outer.toString();
        }
        return false;
    }

    private static int innermostEnd(String text, int open) {
        int close = text.indexOf(')', open);
        int next = text.indexOf('(', open + 1);
        return close > 0 && (next < 0 || next > close) ? close : -1;
    }

    private static boolean isWithoutBrackets(String text) {
        return ROWS.matcher(text).matches();
    }
}

/**
 * What the tests share: telling texts to an object, and holding its answers against those that are due. A test
 * says first which promise and which sentence of the document it is for (promise 0: the document's Terms).
 */
abstract class Talk {
    static final int BAD = -1, NONE = -2, GREAT = -3, GREAT_EXPRESSION = -1000;
    static final int LEAST_INT = Integer.MIN_VALUE, MOST_INT = Integer.MAX_VALUE;
    static final long MOST = 4_000_000_000_000_000_000L;

    private static int wrong = 0;
    private static String sentence = "";

    static void says(int promise, String words) {
        sentence = (promise == 0 ? "terms" : "promise " + promise) + ", " + words;
    }

    static void due(String call, long got, long want) {
        if (got != want) {
            wrong++;
            System.out.println(sentence + ": " + call + " answered " + got + ", due is " + want);
        }
    }

    static void end() {
        System.out.println(wrong == 0 ? "all answers are as due" : wrong + " answers are not as due");
        if (wrong != 0) {
            System.exit(1);
        }
    }

    /** How a text's fault at a place is told. */
    static int faultAt(int place) {
        return -2 - place;
    }

    static void tell(GrammarGuard x, String text) {
        for (int i = 0; i < text.length(); i++) {
            x.ask(text.charAt(i));
        }
    }

    static int word(GrammarGuard x, String text) {
        tell(x, text);
        return x.word();
    }

    static int grammar(GrammarGuard x, String text) {
        tell(x, text);
        return x.grammar();
    }

    static int expression(GrammarGuard x, int which, String text) {
        tell(x, text);
        return x.expression(which);
    }

    static GrammarGuard withGrammar(String text) {
        GrammarGuard x = new GrammarGuard();
        grammar(x, text);
        return x;
    }

    static GrammarGuard with(String grammar, String first, String second) {
        GrammarGuard x = withGrammar(grammar);
        expression(x, 0, first);
        expression(x, 1, second);
        return x;
    }

    /** What a text becomes on an object of its own. */
    static int grammarOf(String text) {
        return grammar(new GrammarGuard(), text);
    }

    static int expressionOf(String text) {
        return expression(new GrammarGuard(), 0, text);
    }

    static int wordOf(String text) {
        return word(new GrammarGuard(), text);
    }

    /** Holds THE WORD against a text of at most 38 letters; expression 1 becomes that text. */
    static void dueWord(GrammarGuard x, String text) {
        due("letters of THE WORD, which is to be '" + text + "'", x.count(3), text.length());
        expression(x, 1, text);
        due("whether THE WORD is '" + text + "'", x.has(1), 1);
    }
}

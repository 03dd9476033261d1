/** Boundary cases of promise 5 and of the Terms EXPRESSION, MACHINE, PLACES and GREAT: a method for each sentence. */
public final class BoundaryExpressions extends Talk {
    private static final String A5 = "a".repeat(5), A8 = "a".repeat(8), A13 = "a".repeat(13), A19 = "a".repeat(19);

    /** Of this with + behind it, 2,000 places are come to; {0} is one that is come to again. */
    private static final String TWO_THOUSAND =
            "(d*(a?(a|b)(a|b|c)(a|b|c)(a|b)(a|b|c)(a|b|c)(a|b|c)(a|b)a*|(a|b|c)))";

    public static void main(String[] args) {
        oneOrMoreSums();
        oneOrMoreRows();
        rowOfNone();
        anyNumberOfNots();
        anyNumberOfSignsBehind();
        noWord();
        anyLetter();
        fifteenBrackets();
        notGoesForAll();
        firstSignThatCannotCome();
        endsTooEarly();
        fewestStates();
        numberedAsComeTo();
        partByPart();
        twoThousandPlacesOfARow();
        twoThousandPlacesOfPlus();
        theBeginningCounts();
        fortyStates();
        fortyStatesOfAPart();
        signsAreGone();
        faultAheadOfGreat();
        itStays();
        anotherOne();
        end();
    }

    /** Whether two texts become the same machine: each has words, and the same ones, from the same states on. */
    private static void dueAlike(String one, String other) {
        GrammarGuard x = new GrammarGuard();
        int states = expression(x, 0, one);
        due("states of " + one + " and of " + other, expression(x, 1, other), states);
        due("words of " + one + " that " + other + " has not", x.apart(0), NONE);
        due("words of " + other + " that " + one + " has not", x.apart(1), NONE);
        for (int state = 0; state < states; state++) {
            due("isLast of " + one + " and of " + other, x.isLast(0, state), x.isLast(1, state));
            for (int letter = 0; letter < 10; letter++) {
                due("next of " + one + " and of " + other, x.next(0, state, letter), x.next(1, state, letter));
            }
        }
    }

    private static void dueHas(String text, String word, int want) {
        GrammarGuard x = new GrammarGuard();
        expression(x, 0, text);
        word(x, word);
        due("whether " + text + " has '" + word + "'", x.has(0), want);
    }

    private static void oneOrMoreSums() {
        says(0, "AN EXPRESSION: ONE or more SUMS with & between (words that all have).");
        dueAlike("a|b&b|c", "b");
        dueAlike("a|b|c&b|c&c|a", "c");
        dueAlike("a&b", "0");
        dueAlike("&", "()");
        dueAlike("a&", "0");
        dueAlike("a?&", "");
    }

    private static void oneOrMoreRows() {
        says(0, "A SUM: one or more ROWS with | between.");
        dueAlike("ab|cd", "(ab)|(cd)");
        dueAlike("a|b|c", "c|b|a");
        dueAlike("|", "");
        dueAlike("a|", "a?");
        dueAlike("|a", "a?");
        dueAlike("a||b", "(a|b)?");
    }

    private static void rowOfNone() {
        says(0, "A ROW: any number of ITEMS, one behind the other (none: the word of no letters).");
        due("no signs", expressionOf(""), 2);
        due("blanks", expressionOf("  "), 2);
        due("brackets around none", expressionOf("()"), 2);
        dueHas("", "", 1);
        dueHas("", "a", 0);
        dueAlike("a()b", "ab");
        dueAlike("()*", "");
    }

    private static void anyNumberOfNots() {
        says(0, "any number of ! (all words that what follows has not; each one anew)");
        dueHas("a", "a", 1);
        dueHas("!a", "a", 0);
        dueHas("!a", "", 1);
        dueHas("!a", "aa", 1);
        dueAlike("!!a", "a");
        dueAlike("!!!a", "!a");
        dueAlike("!".repeat(100) + "a", "a");
        dueAlike("! ! a", "a");
        dueAlike("b!ac", "b(!a)c");
    }

    private static void anyNumberOfSignsBehind() {
        says(0, "then any number of * (any times), + (once or more), ? (once or not), from the left");
        dueHas("a*", "", 1);
        dueHas("a*", "aaa", 1);
        dueHas("a+", "", 0);
        dueHas("a+", "a", 1);
        dueHas("a+", "aaa", 1);
        dueHas("a?", "", 1);
        dueHas("a?", "a", 1);
        dueHas("a?", "aa", 0);
        dueAlike("a+?", "a*");
        dueAlike("a?+", "a*");
        dueAlike("(aa)+*??+", "(aa)*");
        dueAlike("a" + "?".repeat(100), "a?");
    }

    private static void noWord() {
        says(0, "0 (no word)");
        due("states", expressionOf("0"), 1);
        dueHas("0", "", 0);
        dueAlike("a0b", "0");
        dueAlike("0|a", "a");
        dueAlike("0*", "");
        dueAlike("0+", "0");
        dueAlike("0?", "");
        dueAlike("!0", ".*");
    }

    private static void anyLetter() {
        says(0, ". (any letter)");
        dueHas(".", "a", 1);
        dueHas(".", "j", 1);
        dueHas(".", "", 0);
        dueHas(".", "aj", 0);
        dueAlike(".", "a|b|c|d|e|f|g|h|i|j");
    }

    private static void fifteenBrackets() {
        says(0, "Brackets lie in each other at most 15 deep (the 16th ( can't come).");
        String fifteen = "(".repeat(15) + "a" + ")".repeat(15);
        due("15 deep", expressionOf(fifteen), 3);
        due("16 deep", expressionOf("(" + fifteen + ")"), faultAt(15));
        due("16 deep, where the text ends", expressionOf("(".repeat(16)), faultAt(15));
        due("16 deep, behind other signs", expressionOf("a|!" + "(".repeat(16)), faultAt(18));
        due("15 deep, and 15 deep again", expressionOf(fifteen + fifteen), 4);
        due("16 beside each other", expressionOf("(a)".repeat(16)), 18);
        due("down to 14 and up to 15 again", expressionOf("(".repeat(15) + "a)(b" + ")".repeat(15)), 4);
        due("down to 14 and up to 16", expressionOf("(".repeat(15) + "a)((b" + ")".repeat(16)), faultAt(18));
    }

    private static void notGoesForAll() {
        says(0, "! goes for the ATOM with all * + ? behind it.");
        dueAlike("!a*", "!(a*)");
        dueAlike("!a+?", "!(a*)");
        dueHas("!a*", "", 0);
        dueHas("!a*", "aa", 0);
        dueHas("(!a)*", "aa", 1);
        dueHas("!(ab)?", "", 0);
    }

    private static void firstSignThatCannotCome() {
        says(5, "- 2 less the place of the first sign that can't come");
        String[] behind = {"*", "+", "?"};
        for (String sign : behind) {
            due(sign + " at the beginning", expressionOf(sign), faultAt(0));
            due(sign + " behind (", expressionOf("a(" + sign + ")"), faultAt(2));
            due(sign + " behind |", expressionOf("a|" + sign), faultAt(2));
            due(sign + " behind &", expressionOf("a&" + sign), faultAt(2));
            due(sign + " behind !", expressionOf("a!" + sign + "a"), faultAt(2));
        }
        due(") at the beginning", expressionOf(")"), faultAt(0));
        due(") too many", expressionOf("(a))"), faultAt(3));
        due(") behind !", expressionOf("(!)"), faultAt(2));
        due("| behind !", expressionOf("!|a"), faultAt(1));
        due("& behind !", expressionOf("!&a"), faultAt(1));
        due("1", expressionOf("a1"), faultAt(1));
        due("/, which stands ahead of 0", expressionOf("a/"), faultAt(1));
        due("a great letter", expressionOf("aA"), faultAt(1));
        due("=", expressionOf("a="), faultAt(1));
        due("the first of two", expressionOf("ak)"), faultAt(1));
        due("at the last of 300 places", expressionOf(" ".repeat(299) + "k"), faultAt(299));
    }

    private static void endsTooEarly() {
        says(5, "(how many there are, if it ends too early)");
        due("behind (", expressionOf("("), faultAt(1));
        due("in a bracket", expressionOf("(a"), faultAt(2));
        due("in the outer bracket", expressionOf("((a)"), faultAt(4));
        due("behind !", expressionOf("a!"), faultAt(2));
        due("behind !, with blanks", expressionOf("a! "), faultAt(3));
        due("behind | it does not", expressionOf("a|"), 3);
        due("behind & it does not", expressionOf("a&"), 1);
        due("300 signs", expressionOf("(" + " ".repeat(299)), faultAt(300));
    }

    private static void fewestStates() {
        says(0, "ITS MACHINE has the fewest states that take each letter");
        due("no word", expressionOf("0"), 1);
        due("all words", expressionOf("!0"), 1);
        due("the word of no letters", expressionOf(""), 2);
        due("one letter", expressionOf("a"), 3);
        due("all letters", expressionOf("."), 3);
        due("ab or cb", expressionOf("ab|cb"), 4);
        due("the same twice", expressionOf("ab|ab|a(b)"), 4);
        due("two letters in all", expressionOf("(..)*"), 2);
        dueAlike("(a|b)*", "(a*b*)*");
    }

    private static void numberedAsComeTo() {
        says(0, "numbered as they are come to: 0 the first one, then, state by state as they are numbered, the next ones by letters");
        GrammarGuard x = new GrammarGuard();
        due("states", expression(x, 0, "ba|j"), 4);
        int[][] next = {{1, 2, 1, 3}, {1, 1, 1, 1}, {3, 1, 1, 1}, {1, 1, 1, 1}};
        int[] letters = {0, 1, 2, 9};
        for (int state = 0; state < next.length; state++) {
            for (int i = 0; i < letters.length; i++) {
                due("next of " + state + " by " + letters[i], x.next(0, state, letters[i]), next[state][i]);
            }
            due("isLast of " + state, x.isLast(0, state), state == 3 ? 1 : 0);
        }
        dueAlike("j|ba", "ba|j");
        dueAlike("!!(ba|j)", "ba|j");
    }

    private static void partByPart() {
        says(0, "It is made part by part, the first two of a row, a SUM, an EXPRESSION together, then that and the third, and so on");
        due("a row from the left", expressionOf(".*a.....(.*)"), GREAT_EXPRESSION);
        due("its last ones together first", expressionOf(".*(a.....(.*))"), 7);
        String two = "(" + A5 + ")*|(" + A8 + ")*";
        due("a SUM from the left", expressionOf(two + "|.*"), GREAT_EXPRESSION);
        due("the same from the other end", expressionOf(".*|" + two), 1);
        String both = "(" + A5 + ")*&(" + A8 + ")*";
        due("an EXPRESSION from the left", expressionOf(both + "&0"), GREAT_EXPRESSION);
        due("the same from the other end", expressionOf("0&" + both), 1);
    }

    private static void twoThousandPlacesOfARow() {
        says(0, "An expression is GREAT, if for one of these more than 2,000 PLACES are come to (of two behind each other)");
        due("2,000", expressionOf("((.b|a)*)((a.|b)(a|.b)(a|b)(.*)(a|bb)(ab|.)(a|bb)(.*)(a|b)(c|.a).?(.*))"), 35);
        due("2,001", expressionOf("(!(.*ab))(...?(a|.b)(ab|.)(c|.a).a?(a.|b)(.*))"), GREAT_EXPRESSION);
    }

    private static void twoThousandPlacesOfPlus() {
        says(0, "An expression is GREAT, if for one of these more than 2,000 PLACES are come to (of +)");
        due("2,000", expressionOf("((a|b)b?(a|b)...(a|bb)a*....|.)+"), 2);
        due("2,001", expressionOf("((a|bb).(c|.a)(ab|.)...b?.(a|bb)|.)+"), GREAT_EXPRESSION);
        due("2,000, {0} among them", expressionOf(TWO_THOUSAND + "+"), 3);
    }

    private static void theBeginningCounts() {
        says(0, "(THE BEGINNING counts)");
        due("2,000 with it", expressionOf("((a|.b)(a.|b)..a?.(b|c)(b|c)(a.|b)(a|c)(.*)|.)*"), 1);
        due("2,001 with it", expressionOf("((a.|b)(a|b)(a|b)(a|.b)..(ab|.)(c|.a)a(a|.b)(.*)|.)*"), GREAT_EXPRESSION);
        due("2,001 with it, {0} being another one", expressionOf(TWO_THOUSAND + "*"), GREAT_EXPRESSION);
    }

    private static void fortyStates() {
        says(0, "or its least machine has more than 40 states");
        due("40 of a row", expressionOf("a".repeat(38)), 40);
        due("41 of a row", expressionOf("a".repeat(39)), GREAT_EXPRESSION);
        due("40 of a SUM", expressionOf("(aaa)*|(" + A13 + ")*"), 40);
        due("41 of a SUM", expressionOf("(" + A5 + ")*|(" + A8 + ")*"), GREAT_EXPRESSION);
        due("40 of an EXPRESSION", expressionOf("(aaa)*&(" + A13 + ")*"), 40);
        due("41 of an EXPRESSION", expressionOf("(" + A5 + ")*&(" + A8 + ")*"), GREAT_EXPRESSION);
        String forty = "(aaa|a" + A19 + ")";
        String more = "(aaaa|aa" + A19 + "|" + "aaaa" + A19 + ")";
        due("40 of +", expressionOf(forty + "+"), 40);
        due("41 of +", expressionOf(more + "+"), GREAT_EXPRESSION);
        due("40 of *", expressionOf(forty + "*"), 40);
        due("41 of *", expressionOf(more + "*"), GREAT_EXPRESSION);
        due("neither of what stands ahead", expressionOf(more), 25);
        due("40 of ?", expressionOf("(!((aa)*&(" + A19 + ")*))?"), 40);
        due("41 of ?", expressionOf("(!((aaa)*&(" + A13 + ")*))?"), GREAT_EXPRESSION);
        due("40 of !", expressionOf("!(" + "a".repeat(38) + ")"), 40);
    }

    private static void fortyStatesOfAPart() {
        says(0, "An expression is GREAT, if for one of these .. or its least machine has more than 40 states (of a part)");
        due("40 of a part", expressionOf("(" + "a".repeat(38) + ")&b"), 1);
        due("41 of a part", expressionOf("(" + "a".repeat(39) + ")&b"), GREAT_EXPRESSION);
        due("41 of a part that is turned round", expressionOf("!(" + "a".repeat(39) + ")&b"), GREAT_EXPRESSION);
    }

    private static void signsAreGone() {
        says(5, "The signs, which are gone then, become expression 0 or 1: how many states");
        GrammarGuard x = new GrammarGuard();
        due("0", expression(x, 0, "ab"), 4);
        due("told", x.count(2), 0);
        due("1", expression(x, 1, "a"), 3);
        due("told", x.count(2), 0);
        due("the states of 0", x.isLast(0, -1), 4);
        due("the states of 1", x.isLast(1, -1), 3);
        due("a fault", expression(x, 0, "ak"), faultAt(1));
        due("told behind a fault", x.count(2), 0);
        due("a GREAT one", expression(x, 0, "a".repeat(39)), GREAT_EXPRESSION);
        due("told behind a GREAT one", x.count(2), 0);
        due("none of them is in the next one", x.expression(0), 2);
    }

    private static void faultAheadOfGreat() {
        says(5, "- 2 less the place of the first sign that can't come (how many there are, if it ends too early); - 1,000 GREAT");
        due("a sign that can't come", expressionOf("a".repeat(60) + "k"), faultAt(60));
        due("it ends too early", expressionOf("a".repeat(60) + "("), faultAt(61));
    }

    private static void itStays() {
        says(5, "- 1,000 GREAT; it stays then");
        for (int which = 0; which < 2; which++) {
            GrammarGuard x = new GrammarGuard();
            expression(x, which, "ab");
            word(x, "ab");
            String[] texts = {"k", "(", "a".repeat(39), ".*a....."};
            int[] answers = {faultAt(0), faultAt(1), GREAT_EXPRESSION, GREAT_EXPRESSION};
            for (int i = 0; i < texts.length; i++) {
                due(texts[i], expression(x, which, texts[i]), answers[i]);
                due("states", x.isLast(which, -1), 4);
                due("next", x.next(which, 1, 1), 3);
                due("has", x.has(which), 1);
                due("states of the other one", x.isLast(1 - which, -1), 1);
            }
        }
    }

    private static void anotherOne() {
        says(5, "BAD: another one (signs stay).");
        GrammarGuard x = new GrammarGuard();
        tell(x, "ab");
        int[] others = {-1, 2, 256, LEAST_INT, MOST_INT};
        for (int other : others) {
            due("expression " + other, x.expression(other), BAD);
            due("signs, behind " + other, x.count(2), 2);
        }
        due("they are told still", x.expression(1), 4);
        due("expression 0 is as it was", x.isLast(0, -1), 1);
    }
}

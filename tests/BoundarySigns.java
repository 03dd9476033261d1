/** Boundary cases of promises 1 to 3 and of the Terms that they lean on: each method is for one sentence. */
public final class BoundarySigns extends Talk {
    public static void main(String[] args) {
        noGrammar();
        bothExpressionsNoWord();
        wordWithoutLetters();
        leastAndGreatestSign();
        anotherSign();
        threeHundredSigns();
        signsAreGoneWithTheWord();
        lengthOfTheWord();
        firstThatIsNoLetter();
        letterFortyOne();
        wordStays();
        blanksAreLeftOut();
        blanksCountAsPlaces();
        firstAndLastLetter();
        end();
    }

    private static void noGrammar() {
        says(1, "No grammar (BAD where one is wanted)");
        GrammarGuard x = new GrammarGuard();
        dueNoGrammar(x);
        due("a grammar with a fault", grammar(x, "S=a"), faultAt(3));
        dueNoGrammar(x);
    }

    private static void dueNoGrammar(GrammarGuard x) {
        due("rule", x.rule(0, 0), BAD);
        due("variable", x.variable(0, 0), BAD);
        due("trees", x.trees(0), BAD);
        due("treesOf", x.treesOf(0), BAD);
        for (int which = 0; which < 2; which++) {
            due("within " + which, x.within(which), BAD);
            for (int what = 0; what < 3; what++) {
                due("product " + which + " " + what, x.product(which, what), BAD);
            }
            due("meets " + which, x.meets(which, 0), BAD);
            due("meets " + which, x.meets(which, 1), BAD);
        }
    }

    private static void bothExpressionsNoWord() {
        says(1, "both expressions 0 (no word)");
        GrammarGuard x = new GrammarGuard();
        for (int which = 0; which < 2; which++) {
            due("states of " + which, x.isLast(which, -1), 1);
            due("isLast of " + which, x.isLast(which, 0), 0);
            due("no state 1 of " + which, x.isLast(which, 1), BAD);
            for (int letter = 0; letter < 10; letter++) {
                due("next of " + which, x.next(which, 0, letter), 0);
            }
            due("has of " + which, x.has(which), 0);
        }
        due("of 0 alone", x.apart(0), NONE);
        due("of 1 alone", x.apart(1), NONE);
        due("of both", x.apart(2), NONE);
        due("of neither", x.apart(3), 0);
    }

    private static void wordWithoutLetters() {
        says(1, "THE WORD without letters");
        GrammarGuard x = new GrammarGuard();
        due("letters", x.count(3), 0);
        due("the expression of no letters", x.expression(0), 2);
        due("has", x.has(0), 1);
        grammar(x, "S=;");
        due("trees", x.trees(0), 1);
    }

    private static void leastAndGreatestSign() {
        says(2, "One more sign (32 .. 126): how many.");
        GrammarGuard x = new GrammarGuard();
        due("32", x.ask(32), 1);
        due("33", x.ask(33), 2);
        due("125", x.ask(125), 3);
        due("126", x.ask(126), 4);
        due("told", x.count(2), 4);
    }

    private static void anotherSign() {
        says(2, "BAD, changing nothing: another one");
        GrammarGuard x = new GrammarGuard();
        x.ask('a');
        int[] others = {31, 127, 0, -1, 10, 'a' + 128, 'a' + 256, 'a' + 65536, 'a' - 256, LEAST_INT, MOST_INT};
        for (int other : others) {
            due("sign " + other, x.ask(other), BAD);
            due("told, behind " + other, x.count(2), 1);
        }
        due("the next one", x.ask('b'), 2);
        due("the word of both", x.word(), 2);
        dueWord(x, "ab");
    }

    private static void threeHundredSigns() {
        says(2, "BAD, changing nothing: another one; there are 300.");
        GrammarGuard x = new GrammarGuard();
        for (int i = 1; i < 300; i++) {
            x.ask(' ');
        }
        due("the 300th", x.ask('k'), 300);
        due("the 301st", x.ask('K'), BAD);
        due("the 301st, no sign at all", x.ask(127), BAD);
        due("told", x.count(2), 300);
        due("the 300th is the first that is no letter", x.word(), faultAt(299));
        due("told", x.count(2), 0);
        due("the first of the next ones", x.ask('a'), 1);
        due("the next word", x.word(), 1);
    }

    private static void signsAreGoneWithTheWord() {
        says(3, "The signs, which are gone then");
        GrammarGuard x = new GrammarGuard();
        due("a word", word(x, "ab"), 2);
        due("told behind a word", x.count(2), 0);
        due("a fault", word(x, "aK"), faultAt(1));
        due("told behind a fault", x.count(2), 0);
        due("the next word has none of them", word(x, "b"), 1);
        due("told", x.ask('a'), 1);
    }

    private static void lengthOfTheWord() {
        says(3, "become THE WORD: its length");
        GrammarGuard x = new GrammarGuard();
        due("no signs", x.word(), 0);
        due("a letter", word(x, "j"), 1);
        dueWord(x, "j");
        due("39 letters", word(x, "a".repeat(39)), 39);
        due("40 letters", word(x, "b".repeat(40)), 40);
        due("all 40 are kept", x.count(3), 40);
        due("no signs, behind 40 letters", x.word(), 0);
        dueWord(x, "");
    }

    private static void firstThatIsNoLetter() {
        says(3, "- 2 less the place (from 0) of the first one that is no letter (or blank)");
        due("place 0", wordOf("k"), faultAt(0));
        due("the last place", wordOf("abk"), faultAt(2));
        due("the first of two", wordOf("aKbk"), faultAt(1));
        due("the sign ahead of a", wordOf("a`"), faultAt(1));
        due("the sign behind j", wordOf("jk"), faultAt(1));
        due("a great letter", wordOf("aA"), faultAt(1));
        due("a digit", wordOf("a0"), faultAt(1));
        due("the sign behind the blank", wordOf("a!"), faultAt(1));
        due("the last place that there is", wordOf("a" + " ".repeat(298) + "~"), faultAt(299));
    }

    private static void letterFortyOne() {
        says(3, "or of the 41st letter");
        String forty = "abcdefghij".repeat(4);
        due("the 41st", wordOf(forty + "a"), faultAt(40));
        due("the 41st, and more", wordOf(forty + "abc"), faultAt(40));
        due("blanks ahead of the 41st", wordOf(forty + "  a"), faultAt(42));
        due("blanks among the 40", wordOf(" " + forty + "a"), faultAt(41));
        due("blanks behind the 40 alone", wordOf(forty + "  "), 40);
        due("no letter ahead of the 41st", wordOf("a".repeat(39) + "kaaa"), faultAt(39));
        due("no letter at the 41st's place", wordOf(forty + "ka"), faultAt(40));
        due("no letter behind the 41st", wordOf(forty + "ak"), faultAt(40));
    }

    private static void wordStays() {
        says(3, "THE WORD stays then.");
        GrammarGuard x = new GrammarGuard();
        word(x, "abc");
        due("no letter", word(x, "jjk"), faultAt(2));
        dueWord(x, "abc");
        due("41 letters", word(x, "j".repeat(41)), faultAt(40));
        dueWord(x, "abc");
    }

    private static void blanksAreLeftOut() {
        says(0, "Blanks (32) are left out");
        GrammarGuard x = new GrammarGuard();
        due("blanks alone", word(x, "   "), 0);
        due("among letters", word(x, " a  b "), 2);
        dueWord(x, "ab");
        due("of a grammar", grammar(x, "  S  = a S | b ;  "), 2);
        due("length of its first rule", x.rule(0, 1), 2);
        due("of an expression", expression(x, 0, "  a  b * "), 3);
        due("the same without", expression(x, 1, "ab*"), 3);
        due("of 0 alone", x.apart(0), NONE);
        due("of 1 alone", x.apart(1), NONE);
    }

    private static void blanksCountAsPlaces() {
        says(0, "they count as places");
        due("of a word", wordOf("  a k"), faultAt(4));
        due("of a grammar", grammarOf(" S = k;"), faultAt(5));
        due("of a grammar that ends too early", grammarOf("S=a  "), faultAt(5));
        due("of an expression", expressionOf(" a  k"), faultAt(4));
        due("of an expression that ends too early", expressionOf("(a  "), faultAt(4));
    }

    private static void firstAndLastLetter() {
        says(0, "LETTERS are a .. j, in this order.");
        GrammarGuard x = withGrammar("S=abcdef|ghij;");
        for (int letter = 0; letter < 10; letter++) {
            due("letter " + letter, x.rule(letter / 6, 2 + letter % 6), letter);
        }
        due("k", grammarOf("S=k;"), faultAt(2));
        due("the sign ahead of a", grammarOf("S=`;"), faultAt(2));
        due("k", expressionOf("k"), faultAt(0));
        due("the sign ahead of a", expressionOf("`"), faultAt(0));
    }
}

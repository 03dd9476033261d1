/** Boundary cases of promises 11 to 14 and of the order of WORDS: each method is for one sentence. */
public final class BoundaryMachines extends Talk {
    public static void main(String[] args) {
        nextOfFirstAndLast();
        noSuchNext();
        lastOrNot();
        howManyStates();
        noSuchState();
        hasTheWord();
        hasOfNoneSuch();
        wordsOfEachKind();
        shorterComesFirst();
        lesserLetterComesFirst();
        thereIsNone();
        moreThanFortyLetters();
        anotherWhat();
        end();
    }

    private static GrammarGuard withExpressions(String first, String second) {
        GrammarGuard x = new GrammarGuard();
        expression(x, 0, first);
        expression(x, 1, second);
        return x;
    }

    private static void nextOfFirstAndLast() {
        says(11, "Of the machine of an expression: the state to which a letter (0 .. 9) leads.");
        GrammarGuard x = withExpressions("a".repeat(38), "j");
        due("states", x.isLast(0, -1), 40);
        due("a of state 0", x.next(0, 0, 0), 1);
        due("j of state 0", x.next(0, 0, 9), 2);
        due("a of state 38", x.next(0, 38, 0), 39);
        due("a of state 39", x.next(0, 39, 0), 2);
        due("j of state 39", x.next(0, 39, 9), 2);
        due("of the other one, a", x.next(1, 0, 0), 1);
        due("of the other one, i", x.next(1, 0, 8), 1);
        due("of the other one, j", x.next(1, 0, 9), 2);
    }

    private static void noSuchNext() {
        says(11, "BAD: none such.");
        GrammarGuard x = withExpressions("a".repeat(38), "a");
        int[] whiches = {-1, 2, LEAST_INT, MOST_INT};
        for (int which : whiches) {
            due("which " + which, x.next(which, 0, 0), BAD);
        }
        int[] states = {-1, 40, LEAST_INT, MOST_INT};
        for (int state : states) {
            due("state " + state, x.next(0, state, 0), BAD);
        }
        due("a state of the other one alone", x.next(1, 3, 0), BAD);
        due("the last state of the other one", x.next(1, 2, 0), 2);
        int[] letters = {-1, 10, LEAST_INT, MOST_INT};
        for (int letter : letters) {
            due("letter " + letter, x.next(0, 0, letter), BAD);
            due("letter " + letter + " of the last state", x.next(0, 39, letter), BAD);
        }
        expression(x, 0, "a");
        due("a state of the expression before", x.next(0, 3, 0), BAD);
    }

    private static void lastOrNot() {
        says(12, "Whether words that end in a state are words of it (1 or 0)");
        GrammarGuard x = withExpressions("a".repeat(38), "!(ab)");
        for (int state = 0; state < 40; state++) {
            due("state " + state, x.isLast(0, state), state == 39 ? 1 : 0);
        }
        int[] turned = {1, 1, 1, 0};
        for (int state = 0; state < 4; state++) {
            due("state " + state + " of the other one", x.isLast(1, state), turned[state]);
        }
        expression(x, 0, "!" + "(" + "a".repeat(38) + ")");
        due("state 39, turned round", x.isLast(0, 39), 0);
        due("state 38, turned round", x.isLast(0, 38), 1);
    }

    private static void howManyStates() {
        says(12, "state - 1: how many states");
        GrammarGuard x = withExpressions("a".repeat(38), "0");
        due("40", x.isLast(0, -1), 40);
        due("1", x.isLast(1, -1), 1);
        due("of a new object", new GrammarGuard().isLast(1, -1), 1);
    }

    private static void noSuchState() {
        says(12, "BAD: none such.");
        GrammarGuard x = withExpressions("a".repeat(38), "a");
        int[] states = {-2, 40, 64, LEAST_INT, MOST_INT};
        for (int state : states) {
            due("state " + state, x.isLast(0, state), BAD);
        }
        due("a state of the other one alone", x.isLast(1, 3), BAD);
        int[] whiches = {-1, 2, LEAST_INT, MOST_INT};
        for (int which : whiches) {
            due("which " + which, x.isLast(which, 0), BAD);
            due("how many of " + which, x.isLast(which, -1), BAD);
        }
    }

    private static void hasTheWord() {
        says(13, "Whether THE WORD is one of an expression (1 or 0).");
        GrammarGuard x = withExpressions("a*", "a+");
        due("no letters, a*", x.has(0), 1);
        due("no letters, a+", x.has(1), 0);
        word(x, "a".repeat(40));
        due("40 letters, a*", x.has(0), 1);
        due("40 letters, a+", x.has(1), 1);
        word(x, "a".repeat(39) + "b");
        due("the 40th is another one", x.has(0), 0);
        expression(x, 0, "!(a*)");
        due("the same of the complement", x.has(0), 1);
    }

    private static void hasOfNoneSuch() {
        says(13, "BAD: none such.");
        GrammarGuard x = withExpressions("!0", "!0");
        int[] whiches = {-1, 2, LEAST_INT, MOST_INT};
        for (int which : whiches) {
            due("which " + which, x.has(which), BAD);
        }
    }

    private static void dueApart(String first, String second, int what, String word) {
        GrammarGuard x = withExpressions(first, second);
        due("apart " + what + " of " + first + " and " + second, x.apart(what), word.length());
        dueWord(x, word);
    }

    private static void wordsOfEachKind() {
        says(14, "what 0 those of expression 0 alone, 1 of 1 alone, 2 of both, 3 of neither: the first one becomes THE WORD: its length");
        dueApart("b|c", "c|d", 0, "b");
        dueApart("b|c", "c|d", 1, "d");
        dueApart("b|c", "c|d", 2, "c");
        dueApart("b|c", "c|d", 3, "");
        dueApart("|b|c", "c|d", 0, "");
        dueApart("|b|c", "|c|d", 2, "");
        dueApart("|b|c", "|c|d", 3, "a");
        dueApart("a*b", "(a|c)*b", 2, "b");
    }

    private static void shorterComesFirst() {
        says(0, "Of two WORDS the shorter one comes first");
        dueApart("aaa|j", "0", 0, "j");
        dueApart("ab|b", "ab|b", 2, "b");
        dueApart("0", "a*jj|iiiaa", 1, "jj");
        dueApart("", ".|a.|ba", 3, "bb");
    }

    private static void lesserLetterComesFirst() {
        says(0, "of equally long ones that with the lesser letter at the first place where they differ");
        dueApart("ba|ab", "0", 0, "ab");
        dueApart("jaa|ijj|ijb", "0", 0, "ijb");
        dueApart("aab|aba|baa", "aab", 0, "aba");
        dueApart("cj|ca|bj", "ca|bj|cj", 2, "bj");
    }

    private static void thereIsNone() {
        says(14, "NONE: there is none, and THE WORD stays");
        GrammarGuard x = withExpressions("a*", "a*");
        word(x, "abc");
        due("of 0 alone", x.apart(0), NONE);
        due("of 1 alone", x.apart(1), NONE);
        expression(x, 1, "!(a*)");
        due("of both", x.apart(2), NONE);
        due("of neither", x.apart(3), NONE);
        dueWord(x, "abc");
    }

    /** Words of letters a alone whose length has a rest by 6 and a rest by 7. */
    private static GrammarGuard withRests(int six, int seven) {
        return withExpressions("(aaaaaa)*" + "a".repeat(six), "(aaaaaaa)*" + "a".repeat(seven));
    }

    private static void moreThanFortyLetters() {
        says(14, "GREAT: it has more than 40 letters (it stays)");
        GrammarGuard x = withRests(40 % 6, 40 % 7);
        due("40 letters", x.apart(2), 40);
        due("they are THE WORD", x.count(3), 40);
        due("they are THE WORD", x.has(0) + x.has(1), 2);
        x = withRests(41 % 6, 41 % 7);
        word(x, "abc");
        due("41 letters", x.apart(2), GREAT);
        dueWord(x, "abc");
        x = withExpressions("(" + "a".repeat(37) + ")+", "(" + "a".repeat(36) + ")+");
        word(x, "abc");
        due("37 times 36 letters", x.apart(2), GREAT);
        dueWord(x, "abc");
    }

    private static void anotherWhat() {
        says(14, "BAD: another what.");
        GrammarGuard x = withExpressions("a", "b");
        word(x, "abc");
        int[] others = {-1, 4, LEAST_INT, MOST_INT};
        for (int other : others) {
            due("what " + other, x.apart(other), BAD);
        }
        dueWord(x, "abc");
    }
}

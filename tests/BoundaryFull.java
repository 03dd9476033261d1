/**
 * All that the document sets a limit to, at its limit at once: 300 signs, 10 variables, 30 rules of 6 letters and
 * VARIABLES, machines of 40 states, a WORD of 40 letters. Each method is for one sentence.
 */
public final class BoundaryFull extends Talk {
    private static final String NAMES = "ABCDEFGHIJ";
    private static final int STATES = 40, DEAD = 2, ROUND = 38;

    public static void main(String[] args) {
        fullGrammar();
        fullVariables();
        fullTrees();
        fullMachine();
        fullApart();
        fullWitness();
        fullNodes();
        fullProduct();
        sixVariablesInARule();
        waysOfSixVariables();
        end();
    }

    /** A part for each of ten variables, in which X is the variable and Y the next one; 300 signs with blanks. */
    private static String tenParts(String part) {
        StringBuilder text = new StringBuilder();
        for (int i = 0; i < 10; i++) {
            String own = String.valueOf(NAMES.charAt(i));
            String next = String.valueOf(NAMES.charAt((i + 1) % 10));
            text.append(part.replace("X", own).replace("Y", next));
        }
        return text + " ".repeat(300 - text.length());
    }

    /** Words of 6 letters a, and of 5 more than another one, on either side. */
    private static GrammarGuard withFives() {
        GrammarGuard x = withGrammar(tenParts("X=aaaaaa|Yaaaaa|aaaaaY;"));
        expression(x, 1, "!(" + "a".repeat(ROUND) + ")+");
        return x;
    }

    /** Words of 6 letters a, and six words of the same or of the next variable. */
    private static GrammarGuard withSixes() {
        GrammarGuard x = withGrammar(tenParts("X=aaaaaa|YYYYYY|XXXXXX;"));
        expression(x, 1, "!(" + "a".repeat(ROUND) + ")+");
        return x;
    }

    /** The state behind so many letters a from state 0 on; no word leads back to that one, and 2 leads nowhere. */
    private static int stateBehind(int letters) {
        int round = letters == 0 ? 0 : (letters - 1) % ROUND + 1;
        return round < DEAD ? round : round + 1;
    }

    private static void fullGrammar() {
        says(0, "there are at most 10, and at most 30 ALTERNATIVES");
        GrammarGuard x = new GrammarGuard();
        tell(x, tenParts("X=aaaaaa|Yaaaaa|aaaaaY;"));
        due("signs", x.count(2), 300);
        due("rules", x.grammar(), 30);
        due("variables", x.count(0), 10);
        for (int i = 0; i < 10; i++) {
            due("variable of rule " + (3 * i + 2), x.rule(3 * i + 2, 0), i);
            due("length of rule " + (3 * i + 2), x.rule(3 * i + 2, 1), 6);
            due("last of rule " + (3 * i + 2), x.rule(3 * i + 2, 7), 100 + (i + 1) % 10);
        }
    }

    private static void fullVariables() {
        says(8, "Of a variable (ten of them, with thirty rules)");
        GrammarGuard x = withFives();
        for (int i = 0; i < 10; i++) {
            long[] answers = {NAMES.charAt(i), 1, 1, 0, 6, 1, 1};
            for (int what = 0; what < 7; what++) {
                due("variable " + i + " " + what, x.variable(i, what), answers[what]);
            }
        }
    }

    private static void fullTrees() {
        says(9, "How many TREES a variable has whose WORD is THE WORD (of 40 letters, with thirty rules)");
        GrammarGuard x = withFives();
        word(x, "a".repeat(36));
        for (int i = 0; i < 10; i++) {
            due("trees of 36 letters", x.trees(i), 64);
        }
        word(x, "a".repeat(40));
        due("trees of 40 letters", x.trees(9), 0);
        due("treesOf 36", x.treesOf(36), 64);
        due("treesOf 40", x.treesOf(40), 0);
        x = withGrammar(tenParts("X=Yaaaaa|aaaaaY|aaaaa;"));
        word(x, "a".repeat(40));
        due("trees of 40 letters", x.trees(9), 128);
        due("treesOf 40", x.treesOf(40), 128);
    }

    private static void fullMachine() {
        says(11, "the state to which a letter (0 .. 9) leads (of forty states)");
        GrammarGuard x = withFives();
        due("states", x.isLast(1, -1), STATES);
        for (int letters = 0; letters <= ROUND; letters++) {
            int state = stateBehind(letters);
            due("a of state " + state, x.next(1, state, 0), stateBehind(letters + 1));
            due("j of state " + state, x.next(1, state, 9), DEAD);
            due("isLast of " + state, x.isLast(1, state), letters == ROUND ? 0 : 1);
        }
        due("state 40", x.next(1, STATES, 0), BAD);
    }

    /** The shortest word of both has 38 times 37 letters. */
    private static void fullApart() {
        says(14, "GREAT: it has more than 40 letters (by two machines of forty states)");
        GrammarGuard x = new GrammarGuard();
        due("states of 0", expression(x, 0, "(" + "a".repeat(38) + ")+"), 40);
        due("states of 1", expression(x, 1, "(" + "a".repeat(37) + ")+"), 39);
        due("apart", x.apart(2), GREAT);
        due("of 0 alone", x.apart(0), 38);
        due("of 1 alone", x.apart(1), 37);
    }

    /** 6 and fourteen times 5 letters are twice 38; the lesser rule has the next variable first. */
    private static void fullWitness() {
        says(16, "0 the length of its word, 1 its HEIGHT, 2 how many NODES, 3 its last state (ten variables, forty states)");
        GrammarGuard x = withFives();
        due("within", x.within(1), 0);
        due("within, again", x.within(1), 0);
        due("within, a third time", x.within(1), 0);
        long[] answers = {76, 15, 15, stateBehind(76)};
        for (int what = 0; what < 4; what++) {
            due("witness " + what, x.witness(what), answers[what]);
        }
        due("letter 75", x.letter(75), 0);
        due("letter 76", x.letter(76), NONE);
        due("copy", x.copy(), 40);
    }

    private static void fullNodes() {
        says(18, "Node k of it (ten variables, forty states)");
        GrammarGuard x = withFives();
        due("within", x.within(1), 0);
        for (int k = 0; k < 15; k++) {
            int letters = 76 - 5 * k;
            long[] answers = {k % 10, 3 * (k % 10) + (k < 14 ? 1 : 0), 0, stateBehind(letters), 15 - k, letters, 0};
            for (int what = 0; what < 7; what++) {
                due("node " + k + " " + what, x.node(k, what), answers[what]);
            }
        }
        due("node 15", x.node(15, 0), NONE);
    }

    /** From each of 39 states words lead to 38; from the state that leads nowhere, to itself alone. */
    private static void fullProduct() {
        says(20, "0 how many triples are FERTILE, 1 how many of these stand .. 2 how many ways (ten variables, forty states)");
        GrammarGuard x = withFives();
        due("fertile", x.product(1, 0), 10 * (39 * 38 + 1));
        due("standing", x.product(1, 1), 10 * 39 * 38);
        due("ways", x.product(1, 2), 10 * (40 + 2 * (39 * 38 + 1)));
        due("meets 0", x.meets(1, 0), 1);
        due("meets 1", x.meets(1, 1), 1);
    }

    /** 6 and fifteen times 30 letters are twelve times 38: 15 rules of six, and 76 below; four levels have room for those. */
    private static void sixVariablesInARule() {
        says(16, "0 the length of its word, 1 its HEIGHT, 2 how many NODES (six variables in a rule, forty states)");
        GrammarGuard x = withSixes();
        due("within", x.within(1), 0);
        due("length", x.witness(0), 456);
        due("height", x.witness(1), 4);
        due("nodes", x.witness(2), 91);
        due("last state", x.witness(3), stateBehind(ROUND));
        due("the lesser rule", x.node(0, 1), 1);
        due("the last node's length", x.node(90, 5), 6);
        due("the last node's place", x.node(90, 6), 450);
        due("trees of 36 letters", x.treesOf(36), 2);
    }

    /** Words have 6 and any times 30 letters: from each of 39 states they lead to 19. */
    private static void waysOfSixVariables() {
        says(20, "2 how many ways there are to put states between letters and variables of rules (six variables in a rule)");
        GrammarGuard x = withSixes();
        long ways = 19L * 19 * 19 * 19 * 19 * 19;
        due("fertile", x.product(1, 0), 10 * (39 * 19 + 1));
        due("ways", x.product(1, 2), 10 * (40 + 2 * (39 * ways + 1)));
    }
}

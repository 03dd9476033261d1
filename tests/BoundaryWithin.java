/** Boundary cases of promises 15 to 21, of THE TREE and of THE WITNESS: each method is for one sentence. */
public final class BoundaryWithin extends Talk {
    public static void main(String[] args) {
        allWords();
        notAllWords();
        noneAtHandWithOne();
        withinOfNoneSuch();
        asItWasWhenFound();
        noneIsAtHand();
        anotherNumberOfWitness();
        leastWitness();
        letterNoneSuch();
        nodesInOrder();
        startBelowItself();
        nodeNoneSuch();
        anotherWhatOfNode();
        shortestWordFirst();
        thenLeastHeight();
        thenLeastRule();
        thenLeastStates();
        noTreeBelowItself();
        witnessShortestFirst();
        witnessThenLeastHeight();
        witnessThenLeastState();
        copyOfFortyLetters();
        copyOfNone();
        fertileTriples();
        standingTriples();
        waysOfRules();
        productOfNoneSuch();
        meetsOrNot();
        meetsOfNoneSuch();
        end();
    }

    private static void dueWithin(String grammar, String expression, int want) {
        GrammarGuard x = with(grammar, expression, "");
        due("within of " + grammar + " and " + expression, x.within(0), want);
        due("witness of " + grammar + " and " + expression, x.witness(0) == NONE ? 1 : 0, want);
    }

    private static void allWords() {
        says(15, "Whether all words of THE START are words of an expression: 1");
        dueWithin("S=aSb|;", "a*b*", 1);
        dueWithin("S=;", "", 1);
        dueWithin("S=a;", "!0", 1);
        dueWithin("S=S;", "0", 1);
        dueWithin("S=aS;T=b;", "a", 1);
        dueWithin("S=a;T=b;", "a", 1);
        dueWithin("S=a|bT;T=T;", "a", 1);
    }

    private static void notAllWords() {
        says(15, "or 0, and its WITNESS is at hand");
        dueWithin("S=;", "0", 0);
        dueWithin("S=;", ".+", 0);
        dueWithin("S=aS|;", "!(" + "a".repeat(37) + ")", 0);
        dueWithin("S=aSb|;", "(ab)*", 0);
        GrammarGuard x = with("S=aSb|;", "!(ab)", "!(aabb)");
        due("within 0", x.within(0), 0);
        due("its length", x.witness(0), 2);
        due("within 1", x.within(1), 0);
        due("its length", x.witness(0), 4);
        due("within 0 again", x.within(0), 0);
        due("its length", x.witness(0), 2);
    }

    private static void noneAtHandWithOne() {
        says(15, "(none is with 1)");
        GrammarGuard x = with("S=aSb|;", "!(ab)", "a*b*");
        due("not within 0", x.within(0), 0);
        due("a witness", x.witness(0), 2);
        due("within 1", x.within(1), 1);
        due("witness", x.witness(0), NONE);
        due("letter", x.letter(0), NONE);
        due("node", x.node(0, 0), NONE);
        due("copy", x.copy(), NONE);
    }

    private static void withinOfNoneSuch() {
        says(15, "BAD: no grammar, none such.");
        GrammarGuard none = new GrammarGuard();
        due("no grammar", none.within(0), BAD);
        due("no grammar", none.within(1), BAD);
        GrammarGuard x = with("S=ab;", "0", "!0");
        x.within(0);
        int[] whiches = {-1, 2, LEAST_INT, MOST_INT};
        for (int which : whiches) {
            due("which " + which, x.within(which), BAD);
            due("the witness before, behind " + which, x.witness(0), 2);
        }
    }

    private static void asItWasWhenFound() {
        says(16, "Of the WITNESS at hand (as it was when it was found, whatever came since)");
        GrammarGuard x = with("S=aTb;T=cT|d;", "!(acdb)", "0");
        due("within", x.within(0), 0);
        dueAcdb(x);
        grammar(x, "Z=aaaaaa;");
        dueAcdb(x);
        expression(x, 0, "a".repeat(38));
        dueAcdb(x);
        word(x, "jj");
        tell(x, "abc");
        dueAcdb(x);
        x.product(0, 1);
        x.meets(1, 0);
        x.apart(0);
        x.treesOf(6);
        x.trees(0);
        dueAcdb(x);
        due("within of none such", x.within(2), BAD);
        dueAcdb(x);
        due("copy", x.copy(), 4);
        dueAcdb(x);
        due("a grammar with a fault", x.grammar(), faultAt(0));
        dueAcdb(x);
    }

    /** Letters a c d b, of three nodes; the states of !(acdb) before and behind each. */
    private static void dueAcdb(GrammarGuard x) {
        long[] witness = {4, 3, 3, 5};
        for (int what = 0; what < witness.length; what++) {
            due("witness " + what, x.witness(what), witness[what]);
        }
        int[] word = {0, 2, 3, 1};
        for (int i = 0; i < word.length; i++) {
            due("letter " + i, x.letter(i), word[i]);
        }
        long[][] nodes = {{0, 0, 0, 5, 3, 4, 0}, {1, 1, 1, 4, 2, 2, 1}, {1, 2, 3, 4, 1, 1, 2}};
        for (int k = 0; k < nodes.length; k++) {
            for (int what = 0; what < nodes[k].length; what++) {
                due("node " + k + " " + what, x.node(k, what), nodes[k][what]);
            }
        }
    }

    private static void noneIsAtHand() {
        says(16, "NONE: none is at hand");
        int[] whats = {0, 1, 2, 3, 4, -1, LEAST_INT, MOST_INT};
        for (int what : whats) {
            due("witness " + what + " of a new object", new GrammarGuard().witness(what), NONE);
        }
        GrammarGuard x = with("S=a;", "a", "0");
        due("not asked for yet", x.witness(0), NONE);
        x.meets(1, 1);
        due("not asked for yet", x.witness(0), NONE);
        x.within(0);
        due("all words are within", x.witness(4), NONE);
    }

    private static void anotherNumberOfWitness() {
        says(16, "else BAD: another number");
        GrammarGuard x = with("S=a;", "0", "");
        x.within(0);
        due("the last number", x.witness(3), x.next(0, 0, 0));
        int[] others = {-1, 4, LEAST_INT, MOST_INT};
        for (int other : others) {
            due("witness " + other, x.witness(other), BAD);
        }
    }

    private static void leastWitness() {
        says(16, "0 the length of its word, 1 its HEIGHT, 2 how many NODES, 3 its last state");
        GrammarGuard x = with("S=;", "0", "!(a(b|c)d)");
        x.within(0);
        long[] least = {0, 1, 1, 0};
        for (int what = 0; what < 4; what++) {
            due("witness " + what, x.witness(what), least[what]);
        }
        grammar(x, "S=aTd;T=UU;U=b|;");
        x.within(1);
        long[] other = {3, 3, 4, 4};
        for (int what = 0; what < 4; what++) {
            due("witness " + what, x.witness(what), other[what]);
        }
    }

    private static void letterNoneSuch() {
        says(17, "Letter i (0 .. 9) of its word. NONE: none such, or none is at hand.");
        GrammarGuard x = with("S=aTj;T=|b;", "0", "!0");
        due("none at hand", x.letter(0), NONE);
        x.within(0);
        due("letter 0", x.letter(0), 0);
        due("letter 1", x.letter(1), 9);
        long[] others = {2, -1, 1L << 32, (1L << 32) + 1, -(1L << 32), Long.MIN_VALUE, Long.MAX_VALUE, MOST, MOST - 1};
        for (long other : others) {
            due("letter " + other, x.letter(other), NONE);
        }
        grammar(x, "S=;");
        x.within(0);
        due("letter 0 of none", x.letter(0), NONE);
        x.within(1);
        due("none at hand", x.letter(0), NONE);
    }

    private static void nodesInOrder() {
        says(18, "Node k of it, each before those below it, these from the left");
        GrammarGuard x = with("S=TaU;T=VV;U=bW;V=|b;W=;", "0", "");
        due("within", x.within(0), 0);
        int[] variables = {0, 1, 3, 3, 2, 4};
        int[] rules = {0, 1, 3, 3, 2, 5};
        int[] nodes = {6, 3, 1, 1, 2, 1};
        int[] lengths = {2, 0, 0, 0, 1, 0};
        int[] places = {0, 0, 0, 0, 1, 2};
        due("how many", x.witness(2), 6);
        for (int k = 0; k < variables.length; k++) {
            due("variable of " + k, x.node(k, 0), variables[k]);
            due("rule of " + k, x.node(k, 1), rules[k]);
            due("nodes of " + k, x.node(k, 4), nodes[k]);
            due("length of " + k, x.node(k, 5), lengths[k]);
            due("place of " + k, x.node(k, 6), places[k]);
        }
    }

    private static void startBelowItself() {
        says(18, "Node k of it .. 2 and 3 the states before and behind (THE START below itself)");
        GrammarGuard x = with("S=|aSb;", "!(aabb)", "");
        due("within", x.within(0), 0);
        due("nodes", x.witness(2), 3);
        long[][] nodes = {{0, 1, 0, 5, 3, 4, 0}, {0, 1, 1, 4, 2, 2, 1}, {0, 0, 3, 3, 1, 0, 2}};
        for (int k = 0; k < nodes.length; k++) {
            for (int what = 0; what < nodes[k].length; what++) {
                due("node " + k + " " + what, x.node(k, what), nodes[k][what]);
            }
        }
        int[] word = {0, 0, 1, 1};
        for (int i = 0; i < word.length; i++) {
            due("letter " + i, x.letter(i), word[i]);
        }
        x = with("S=SS|b|a;", "!(a|ba)", "0");
        due("within", x.within(0), 0);
        due("rule of a alone", x.node(0, 1), 2);
        expression(x, 0, "!(ba)");
        due("within", x.within(0), 0);
        due("behind the first S", x.node(1, 3), x.next(0, 0, 1));
        due("the second S begins there", x.node(2, 2), x.next(0, 0, 1));
        due("the second S's place", x.node(2, 6), 1);
    }

    private static void nodeNoneSuch() {
        says(18, "NONE: none such, or none is at hand");
        GrammarGuard x = with("S=aT;T=;", "0", "!0");
        int[] whats = {0, 6, 7, -1, LEAST_INT, MOST_INT};
        long[] others = {2, -1, 1L << 32, (1L << 32) + 1, Long.MIN_VALUE, Long.MAX_VALUE, MOST, MOST - 1};
        for (int what : whats) {
            due("none at hand", x.node(0, what), NONE);
        }
        x.within(0);
        for (int what : whats) {
            for (long other : others) {
                due("node " + other + " " + what, x.node(other, what), NONE);
            }
        }
        x.within(1);
        due("none at hand with 1", x.node(0, 0), NONE);
    }

    private static void anotherWhatOfNode() {
        says(18, "else BAD: another what");
        GrammarGuard x = with("S=aT;T=;", "0", "");
        x.within(0);
        due("the last what", x.node(1, 6), 1);
        int[] others = {-1, 7, LEAST_INT, MOST_INT};
        for (int other : others) {
            due("node 0 " + other, x.node(0, other), BAD);
            due("node 1 " + other, x.node(1, other), BAD);
        }
    }

    /** The rule of a node of the witness against an expression. */
    private static void dueRule(String grammar, String expression, int node, int rule) {
        GrammarGuard x = with(grammar, expression, "");
        due("within of " + grammar + " and " + expression, x.within(0), 0);
        due("rule of node " + node + " of " + grammar + " and " + expression, x.node(node, 1), rule);
    }

    private static void shortestWordFirst() {
        says(0, "of all such ones that with the shortest word");
        dueRule("S=aa|T;T=U;U=V;V=b;", "0", 0, 1);
        dueRule("S=aT;T=bb|U;U=V;V=c;", "0", 1, 2);
        dueRule("S=T|a;T=U;U=;", "0", 0, 0);
    }

    private static void thenLeastHeight() {
        says(0, "of these the least HEIGHT");
        dueRule("S=T|a;T=b;", "0", 0, 1);
        dueRule("S=T|UU|c;T=V;U=a;V=bb;", "!(aa|bb)", 0, 1);
        dueRule("S=aT;T=U|b;U=c;", "0", 1, 2);
        dueRule("S=T|TT;T=U|;U=;", "0", 1, 3);
        dueRule("S=Xaaaaa|Y;X=Z;Z=;Y=aaaaa;", "0", 0, 1);
        dueWitness("S=XY;X=V;V=W;W=;Y=aaaaa;", "0", 5, 4, 0);
        GrammarGuard x = with("S=XYc;Y=aaaaa|;X=W|aaaaa;W=;", "!(aaaaac)", "");
        due("within", x.within(0), 0);
        due("height by X alone", x.witness(1), 2);
        due("letters of X", x.node(1, 5), 5);
        due("letters of Y", x.node(2, 5), 0);
    }

    private static void thenLeastRule() {
        says(0, "of these the least rule");
        dueRule("S=a|b|c;", "0", 0, 0);
        dueRule("S=T|U;T=b;U=a;", "0", 0, 0);
        dueRule("S=aT;T=c|b;", "0", 1, 1);
        dueRule("S=TU|V;T=a;U=a;V=bb;", "0", 0, 0);
    }

    /** By X and Y, states 1 and 4 are come to with ac, states 2 and 2 with bd; the words end alike. */
    private static void thenLeastStates() {
        says(0, "of these the least states, from the left");
        GrammarGuard x = with("S=XYZ;X=b|a;Y=d|c;Z=f|e;", "!(ace|bd*f)", "");
        due("within", x.within(0), 0);
        due("the length", x.witness(0), 3);
        due("the state behind X", x.node(1, 3), 1);
        due("the rule of X", x.node(1, 1), 2);
        due("the state behind Y", x.node(2, 3), 4);
        due("the letter of X", x.letter(0), 0);
        due("the letter of Z", x.letter(2), 4);
        x = with("S=aXY;X=d|c;Y=f|e;", "!(ace|adf)", "");
        due("within", x.within(0), 0);
        due("the lesser state goes ahead of the lesser rule below", x.node(1, 1), 2);
    }

    /** bc leads to state 1: by S to 2 and Y on to 1; by S to 1 itself and an empty Y it would stand below itself. */
    private static void noTreeBelowItself() {
        says(0, "THE TREE of a triple is a rule of X .. and with THE TREES of these");
        GrammarGuard x = with("S=SY|b;Y=c|;", "!(a|bc)", "");
        due("within", x.within(0), 0);
        due("length", x.witness(0), 2);
        due("height", x.witness(1), 2);
        due("nodes", x.witness(2), 3);
        due("last state", x.witness(3), 1);
        due("the state behind S", x.node(1, 3), 2);
        due("the rule of S", x.node(1, 1), 1);
        due("the rule of Y", x.node(2, 1), 2);
    }

    private static void dueWitness(String grammar, String expression, long length, long height, long state) {
        GrammarGuard x = with(grammar, expression, "");
        String both = " of " + grammar + " and " + expression;
        due("within" + both, x.within(0), 0);
        due("length" + both, x.witness(0), length);
        due("height" + both, x.witness(1), height);
        due("last state" + both, x.witness(3), state);
    }

    private static void witnessShortestFirst() {
        says(0, "THE WITNESS .. q not being a state of words of the expression, whose word is the shortest");
        dueWitness("S=bb|T;T=U;U=a;", "!(a|bb)", 1, 3, 1);
        dueWitness("S=a|bb;", "!(bb)", 2, 1, 3);
        dueWitness("S=a|T;T=bbb;", "!(bbb)", 3, 2, 4);
    }

    private static void witnessThenLeastHeight() {
        says(0, "then whose HEIGHT is the least");
        dueWitness("S=T|b;T=a;", "!(a|b|ac|bd)", 1, 1, 2);
        dueWitness("S=b|T;T=a;", "!(a|b|ac|bd)", 1, 1, 2);
    }

    private static void witnessThenLeastState() {
        says(0, "then whose q is");
        dueWitness("S=b|a;", "!(a|b|ac|bd)", 1, 1, 1);
        dueWitness("S=a|b;", "!(a|b|ac|bd)", 1, 1, 1);
        dueRule("S=b|a;", "!(a|b|ac|bd)", 0, 1);
    }

    private static void copyOfFortyLetters() {
        says(19, "The first 40 letters of its word (all, if there are fewer) become THE WORD: how many.");
        String[] rows = {"", "b", "bb"};
        for (int more = 0; more < rows.length; more++) {
            GrammarGuard x = with("S=TTTc" + rows[more] + ";T=UUaaaa;U=aaaa;", "0", "a*cb*");
            due("within", x.within(0), 0);
            due("length", x.witness(0), 37 + more);
            due("copy", x.copy(), 37 + more);
            due("it is THE WORD", x.has(1), 1);
            due("its letters", x.count(3), 37 + more);
        }
        GrammarGuard x = with("S=TTTcbb;T=UUUb;U=aaaa;", "0", "(a+b)*cb?");
        due("within", x.within(0), 0);
        due("length", x.witness(0), 42);
        due("copy of 42", x.copy(), 40);
        due("its letters", x.count(3), 40);
        due("the 40th is c", x.has(1), 1);
        grammar(x, "S=TTTcb;T=UUUb;U=aaaa;");
        due("within", x.within(0), 0);
        due("length", x.witness(0), 41);
        due("copy of 41", x.copy(), 40);
        grammar(x, "S=TTTc;T=UUUb;U=aaaa;");
        due("within", x.within(0), 0);
        due("length", x.witness(0), 40);
        due("copy of 40", x.copy(), 40);
        due("it is THE WORD", x.has(1), 1);
        due("it is THE WORD", x.trees(0), 1);
        grammar(x, "S=jci;");
        due("within", x.within(0), 0);
        due("copy of three", x.copy(), 3);
        dueWord(x, "jci");
        grammar(x, "S=;");
        due("within", x.within(0), 0);
        due("copy of none", x.copy(), 0);
        dueWord(x, "");
    }

    private static void copyOfNone() {
        says(19, "NONE: none is at hand (THE WORD stays).");
        GrammarGuard x = with("S=a;", "a", "0");
        word(x, "abc");
        due("none yet", x.copy(), NONE);
        x.within(1);
        x.within(0);
        due("none any more", x.copy(), NONE);
        dueWord(x, "abc");
    }

    private static void dueProduct(String grammar, String expression, long... answers) {
        GrammarGuard x = with(grammar, "", expression);
        for (int what = 0; what < answers.length; what++) {
            due("product(1, " + what + ") of " + grammar + " and " + expression, x.product(1, what), answers[what]);
        }
    }

    private static void fertileTriples() {
        says(20, "0 how many triples are FERTILE");
        dueProduct("S=S;", "a", 0);
        dueProduct("S=;", "0", 1);
        dueProduct("S=;", "a".repeat(38), 40);
        dueProduct("S=a;", "a", 3);
        dueProduct("S=a;T=;", "a", 6);
        dueProduct("S=a|b;", "a", 4);
        dueProduct("A=.;B=.;C=.;D=.;E=.;F=.;G=.;H=.;I=.;J=.;".replace(".", "aJ|"), "(" + "a".repeat(38) + ")*", 10 * (38 * 38 + 1));
    }

    private static void standingTriples() {
        says(20, "1 how many of these stand in some TREE of a triple 0 START q");
        dueProduct("S=S;", "a", 0, 0);
        dueProduct("S=S;T=a;", "a", 3, 0);
        dueProduct("S=a;T=a;", "0", 2, 1);
        dueProduct("S=a|b;", "a", 4, 2);
        dueProduct("S=aT|bU;T=c;U=U;", "a", 6, 2);
        dueProduct("S=TT;T=|a;", "a", 11, 7);
        dueProduct("S=TaU;T=b|;U=c|;", "(..)*", 12, 8, 16);
        dueProduct("S=aT;T=bU;U=c|;", "abc", 6 + 6 + 9, 6);
    }

    private static void waysOfRules() {
        says(20, "2 how many ways there are to put states between letters and variables of rules .. over all rules and first states");
        dueProduct("S=S;", "a", 0, 0, 0);
        dueProduct("S=;", "a", 3, 1, 3);
        dueProduct("S=||;", "a", 3, 1, 9);
        dueProduct("S=TT|b;T=|a;", "a", 11, 7, 8 + 3 + 3 + 3);
        dueProduct("S=a|aU;U=U;", "0", 1, 1, 1);
    }

    private static void productOfNoneSuch() {
        says(20, "BAD: no grammar, none such, another number.");
        GrammarGuard x = with("S=a;", "a", "0");
        due("the last ones", x.product(1, 2), 1);
        int[] whiches = {-1, 2, LEAST_INT, MOST_INT};
        for (int which : whiches) {
            due("which " + which, x.product(which, 0), BAD);
        }
        int[] whats = {-1, 3, LEAST_INT, MOST_INT};
        for (int what : whats) {
            due("what " + what, x.product(0, what), BAD);
            due("what " + what, x.product(1, what), BAD);
        }
        due("no grammar", new GrammarGuard().product(0, 0), BAD);
    }

    private static void dueMeets(String grammar, String expression, int in, int out) {
        GrammarGuard x = with(grammar, "", expression);
        due("meets(1, 0) of " + grammar + " and " + expression, x.meets(1, 0), in);
        due("meets(1, 1) of " + grammar + " and " + expression, x.meets(1, 1), out);
    }

    private static void meetsOrNot() {
        says(21, "Whether THE START has words that are words of an expression (what 0), that are none of it (1): 1 or 0.");
        dueMeets("S=a;", "a", 1, 0);
        dueMeets("S=b;", "a", 0, 1);
        dueMeets("S=a|b;", "a", 1, 1);
        dueMeets("S=S;", "a", 0, 0);
        dueMeets("S=S;T=a;", "a", 0, 0);
        dueMeets("S=;", "0", 0, 1);
        dueMeets("S=;", "", 1, 0);
        dueMeets("S=b;T=a;", "a", 0, 1);
        dueMeets("S=aS|;", "(" + "a".repeat(38) + ")+", 1, 1);
        GrammarGuard x = with("S=a;", "a", "b");
        due("of 0", x.meets(0, 0), 1);
        due("of 1", x.meets(1, 0), 0);
        due("no witness is at hand by it", x.witness(0), NONE);
    }

    private static void meetsOfNoneSuch() {
        says(21, "BAD: no grammar, none such, another number.");
        GrammarGuard x = with("S=a;", "a", "0");
        int[] others = {-1, 2, LEAST_INT, MOST_INT};
        for (int other : others) {
            due("which " + other, x.meets(other, 0), BAD);
            due("which " + other, x.meets(other, 1), BAD);
            due("what " + other, x.meets(0, other), BAD);
            due("what " + other, x.meets(1, other), BAD);
        }
        due("no grammar", new GrammarGuard().meets(0, 0), BAD);
        due("no grammar", new GrammarGuard().meets(0, 1), BAD);
    }
}

/**
 * Boundary cases of "Lengths and numbers above 4,000,000,000,000,000,000 are told as that (and count as that when
 * they are compared)", in promises 16 to 19: witnesses with just as many letters or nodes as that, with one fewer
 * and with one more. Each method is for one sentence.
 */
public final class BoundaryNumbers extends Talk {
    /**
     * X has ten D; above level 15, D is a, X of the next level, b, and seven d. At level 15, D is 399 letters c.
     * So X has 10^15 * (3990 + 10) - 10 letters, and S adds as many d as it likes.
     */
    private static final String LETTERS = "X=UU;U=DDDDD;D=Edddd|GGGccc;E=aXbddd;G=HHHHHH;H=KKKKcc;K=ccccc;";
    private static final long LETTERS_OF_X = MOST - 10;
    private static final int HEIGHT_OF_X = 66;

    /**
     * X has ten D; above level 15, D has X of the next level and five nodes more. At level 15, D has 399 nodes.
     * So X has 10^15 * (3993 + 7) - 7 nodes, and S adds itself and as many as it likes.
     */
    private static final String NODES = "X=UU;U=DDDDD;D=aXbVWW|cGG;V=WW;W=;G=HHHHHH;H=KKKK;K=VVW;";

    public static void main(String[] args) {
        lengthOfTheWitness();
        nodesOfTheWitness();
        heightAndNodesOfTheLongOne();
        lastLetter();
        lastNode();
        nodesOfANode();
        lengthOfANode();
        placeOfItsFirstLetter();
        comparedAsThat();
        longOneBehindAnother();
        comparedBelowThat();
        copyOfALongOne();
        end();
    }

    /** The words in which c stands below fifteen a .. b, and d nowhere there, are none of this expression. */
    private static GrammarGuard withNest(String grammar) {
        String nest = "c*";
        for (int level = 0; level < 15; level++) {
            nest = "(d|a" + nest + "b)*";
        }
        GrammarGuard x = withGrammar(grammar);
        due("states", expression(x, 0, "!" + nest), 17);
        due("within of " + grammar, x.within(0), 0);
        return x;
    }

    private static GrammarGuard withLetters(long letters) {
        if (letters == MOST - 1) {
            return withNest("S=Fdddd;F=Xddddd;" + LETTERS);
        }
        return withNest((letters == MOST ? "S=Fddddd;F=Xddddd;" : "S=FWdddd;F=Xddddd;W=dd;") + LETTERS);
    }

    private static GrammarGuard withNodes(long nodes) {
        return withNest((nodes == MOST - 1 ? "S=XVWW;" : nodes == MOST ? "S=XVV;" : "S=XVVW;") + NODES);
    }

    private static void lengthOfTheWitness() {
        says(16, "0 the length of its word");
        due("one fewer", withLetters(MOST - 1).witness(0), MOST - 1);
        due("just as many", withLetters(MOST).witness(0), MOST);
        due("one more", withLetters(MOST + 1).witness(0), MOST);
    }

    private static void nodesOfTheWitness() {
        says(16, "2 how many NODES");
        due("one fewer", withNodes(MOST - 1).witness(2), MOST - 1);
        due("just as many", withNodes(MOST).witness(2), MOST);
        due("one more", withNodes(MOST + 1).witness(2), MOST);
    }

    private static void heightAndNodesOfTheLongOne() {
        says(16, "1 its HEIGHT, 2 how many NODES, 3 its last state");
        for (long letters = MOST - 1; letters <= MOST + 1; letters++) {
            GrammarGuard x = withLetters(letters);
            due("height", x.witness(1), HEIGHT_OF_X + 2);
            due("nodes", x.witness(2), nodesOfX() + (letters > MOST ? 3 : 2));
            due("last state", x.witness(3), 0);
        }
        due("height of many nodes", withNodes(MOST).witness(1), 54);
    }

    /** Of LETTERS: 943 at level 15, and at each level above 3, and ten times 2 and those of the next one. */
    private static long nodesOfX() {
        long nodes = 943;
        for (int level = 0; level < 15; level++) {
            nodes = 3 + 10 * (2 + nodes);
        }
        return nodes;
    }

    private static void lastLetter() {
        says(17, "Letter i (0 .. 9) of its word. NONE: none such");
        GrammarGuard fewer = withLetters(MOST - 1);
        due("the last one, of one fewer", fewer.letter(MOST - 2), 3);
        due("behind it", fewer.letter(MOST - 1), NONE);
        due("the last b, of one fewer", fewer.letter(MOST - 18), 1);
        GrammarGuard many = withLetters(MOST);
        due("the first d behind the last b", many.letter(MOST - 16), 3);
        due("the last b", many.letter(MOST - 18), 1);
        due("the last one", many.letter(MOST - 1), 3);
        due("behind it", many.letter(MOST), NONE);
        due("the greatest number", many.letter(Long.MAX_VALUE), NONE);
        GrammarGuard more = withLetters(MOST + 1);
        due("the last one that is told", more.letter(MOST - 1), 3);
        due("behind what is told", more.letter(MOST), NONE);
        for (int i = 0; i < 15; i++) {
            due("letter " + i, more.letter(i), 0);
        }
        for (int i = 15; i < 30; i++) {
            due("letter " + i, more.letter(i), 2);
        }
    }

    private static void lastNode() {
        says(18, "Node k of it .. NONE: none such");
        GrammarGuard fewer = withNodes(MOST - 1);
        due("the last one, of one fewer", fewer.node(MOST - 2, 0), 5);
        due("behind it", fewer.node(MOST - 1, 0), NONE);
        due("V, of one fewer", fewer.node(MOST - 6, 0), 4);
        GrammarGuard many = withNodes(MOST);
        due("the last V", many.node(MOST - 3, 0), 4);
        due("the last V's rule", many.node(MOST - 3, 1), 5);
        due("the last one", many.node(MOST - 1, 0), 5);
        due("the last one's rule", many.node(MOST - 1, 1), 6);
        due("behind it", many.node(MOST, 0), NONE);
        due("behind it, another what", many.node(MOST, 7), NONE);
        due("the greatest number", many.node(Long.MAX_VALUE, 0), NONE);
        GrammarGuard more = withNodes(MOST + 1);
        due("the last one that is told", more.node(MOST - 1, 0), 5);
        due("behind what is told", more.node(MOST, 0), NONE);
    }

    private static void nodesOfANode() {
        says(18, "4 how many NODES it has");
        due("one fewer", withNodes(MOST - 1).node(0, 4), MOST - 1);
        due("just as many", withNodes(MOST).node(0, 4), MOST);
        due("one more", withNodes(MOST + 1).node(0, 4), MOST);
        due("X below one more", withNodes(MOST + 1).node(1, 4), MOST - 7);
    }

    private static void lengthOfANode() {
        says(18, "5 the length of its word");
        due("one fewer", withLetters(MOST - 1).node(0, 5), MOST - 1);
        due("just as many", withLetters(MOST).node(0, 5), MOST);
        due("one more", withLetters(MOST + 1).node(0, 5), MOST);
        due("F below one more", withLetters(MOST + 1).node(1, 5), MOST - 5);
        due("X below one more", withLetters(MOST + 1).node(2, 5), LETTERS_OF_X);
    }

    private static void placeOfItsFirstLetter() {
        says(18, "6 the place of its first letter");
        duePlaces("S=XWdddW;W=dddddd;", MOST - 10, MOST - 1);
        duePlaces("S=XWWW;W=ddddd;", MOST - 10, MOST - 5, MOST);
        duePlaces("S=XWWdW;W=ddddd;", MOST - 10, MOST - 5, MOST);
        duePlaces("S=XWWWWW;W=dddddd;", MOST - 10, MOST - 4, MOST, MOST, MOST);
    }

    /** The places of all W, which stand behind X and have no nodes below. */
    private static void duePlaces(String start, long... places) {
        GrammarGuard x = withNest(start + LETTERS);
        long first = 1 + nodesOfX();
        due("nodes of " + start, x.witness(2), first + places.length);
        for (int i = 0; i < places.length; i++) {
            due("variable of W " + i + " of " + start, x.node(first + i, 0), 1);
            due("place of W " + i + " of " + start, x.node(first + i, 6), places[i]);
        }
    }

    private static void comparedAsThat() {
        says(0, "(and count as that when they are compared) (above)");
        GrammarGuard x = withNest("S=Fddddd|XWWd;F=Xddddd;W=ddddd;" + LETTERS);
        due("one more is as long as just as many: the lower one", x.node(0, 1), 1);
        due("its height", x.witness(1), HEIGHT_OF_X + 1);
        due("its length", x.witness(0), MOST);
        x = withNest("S=XWWd|XWW;W=ddddd;" + LETTERS);
        due("one more is as long as just as many: the first rule", x.node(0, 1), 0);
        x = withNest("S=XWWdd|XWWd|XWWddd;W=ddddd;" + LETTERS);
        due("two more, one more, three more: the first rule", x.node(0, 1), 0);
    }

    private static void longOneBehindAnother() {
        says(15, "or 0, and its WITNESS is at hand (a long one behind another)");
        GrammarGuard x = withLetters(MOST + 1);
        grammar(x, "S=Fddddd|XWWd;F=Xddddd;W=ddddd;" + LETTERS);
        due("within", x.within(0), 0);
        due("its rule", x.node(0, 1), 1);
        due("its height", x.witness(1), HEIGHT_OF_X + 1);
        due("its nodes", x.witness(2), nodesOfX() + 3);
        due("its length", x.witness(0), MOST);
    }

    private static void comparedBelowThat() {
        says(0, "(and count as that when they are compared) (not above)");
        GrammarGuard x = withNest("S=Fdddd|XWW;F=Xddddd;W=ddddd;" + LETTERS);
        due("one fewer is shorter, though it is higher", x.node(0, 1), 0);
        due("its height", x.witness(1), HEIGHT_OF_X + 2);
        due("its length", x.witness(0), MOST - 1);
        x = withNest("S=XWWd|XWdddd;W=ddddd;" + LETTERS);
        due("one fewer is shorter, though its rule is later", x.node(0, 1), 1);
    }

    private static void copyOfALongOne() {
        says(19, "The first 40 letters of its word");
        for (long letters = MOST - 1; letters <= MOST + 1; letters++) {
            GrammarGuard x = withLetters(letters);
            due("copy", x.copy(), 40);
            due("letters", x.count(3), 40);
            expression(x, 1, "a".repeat(15) + "c*");
            due("they are THE WORD", x.has(1), 1);
        }
    }
}

/** Each promise of the document, by hand: ordinary inputs, the edges that the document names, wrong inputs. */
public final class PromiseRuns extends Talk {
    public static void main(String[] args) {
        newObject();
        ask();
        word();
        grammar();
        expression();
        machineNumbers();
        greatExpressions();
        count();
        rule();
        variable();
        trees();
        treesOf();
        next();
        isLast();
        has();
        apart();
        within();
        witness();
        letterAndNode();
        longWitness();
        copy();
        product();
        meets();
        end();
    }

    private static void newObject() {
        says(1, "by hand");
        GrammarGuard x = new GrammarGuard();
        for (int what = 0; what < 4; what++) {
            due("count", x.count(what), 0);
        }
        due("rule", x.rule(0, 0), -1);
        due("variable", x.variable(0, 0), -1);
        due("trees", x.trees(0), -1);
        due("treesOf", x.treesOf(0), -1);
        due("within", x.within(0), -1);
        due("product", x.product(0, 0), -1);
        due("meets", x.meets(0, 0), -1);
        due("witness", x.witness(0), -2);
        due("letter", x.letter(0), -2);
        due("node", x.node(0, 0), -2);
        due("copy", x.copy(), -2);
        for (int which = 0; which < 2; which++) {
            due("states", x.isLast(which, -1), 1);
            due("isLast", x.isLast(which, 0), 0);
            due("next", x.next(which, 0, 9), 0);
            due("has", x.has(which), 0);
        }
        due("apart 2", x.apart(2), -2);
        due("apart 3", x.apart(3), 0);
        due("BAD", GrammarGuard.BAD, -1);
        due("NONE", GrammarGuard.NONE, -2);
        due("GREAT", GrammarGuard.GREAT, -3);
    }

    private static void ask() {
        says(2, "by hand");
        GrammarGuard x = new GrammarGuard();
        due("31", x.ask(31), -1);
        due("127", x.ask(127), -1);
        due("least", x.ask(Integer.MIN_VALUE), -1);
        due("most", x.ask(Integer.MAX_VALUE), -1);
        due("0", x.count(2), 0);
        due("32", x.ask(32), 1);
        due("126", x.ask(126), 2);
        due("told", x.count(2), 2);
        for (int i = 3; i <= 300; i++) {
            due("sign", x.ask(' '), i);
        }
        due("301st", x.ask(' '), -1);
        due("another", x.ask(200), -1);
        due("told", x.count(2), 300);
        due("word", x.word(), -2 - 1);
        due("gone", x.count(2), 0);
        due("first again", x.ask('a'), 1);
    }

    private static void word() {
        says(3, "by hand");
        GrammarGuard x = new GrammarGuard();
        due("word", word(x, "abj"), 3);
        due("letters", x.count(3), 3);
        due("signs", x.count(2), 0);
        due("fault", word(x, " ab kc"), -2 - 4);
        due("signs are gone", x.count(2), 0);
        due("stays", x.count(3), 3);
        due("first", word(x, "K"), -2);
        due("40", word(x, "abcdefghij".repeat(4)), 40);
        due("41", word(x, "a b" + "c".repeat(39)), -2 - 41);
        due("fault ahead of the 41st", word(x, "a".repeat(39) + "kaaa"), -2 - 39);
        due("41st ahead of a fault", word(x, "a".repeat(41) + "k"), -2 - 40);
        due("stays", x.count(3), 40);
        due("blanks", word(x, " a  b "), 2);
        due("none", x.word(), 0);
        due("none", x.count(3), 0);
    }

    private static void grammar() {
        says(4, "by hand");
        GrammarGuard x = new GrammarGuard();
        due("none", x.grammar(), -2);
        due("blanks", grammar(x, "  "), -2 - 2);
        due("no grammar", x.count(0), 0);
        due("empty", grammar(x, "S=;"), 1);
        due("two", grammar(x, " S = a S b | ; "), 2);
        due("signs", x.count(2), 0);
        due("ends", grammar(x, "S"), -2 - 1);
        due("ends", grammar(x, "S="), -2 - 2);
        due("ends", grammar(x, "S=a "), -2 - 4);
        due("ends", grammar(x, "S=a|"), -2 - 4);
        due("ends, and no part", grammar(x, "S=T"), -2 - 3);
        due("stays", x.count(1), 2);
        due("head", grammar(x, "s=a;"), -2);
        due("head", grammar(x, ";"), -2);
        due("equals", grammar(x, "S a;"), -2 - 2);
        due("twice =", grammar(x, "S==;"), -2 - 2);
        due("letter k", grammar(x, "S=ak;"), -2 - 3);
        due("sign", grammar(x, "S=a*;"), -2 - 3);
        due("behind", grammar(x, "S=a;b"), -2 - 4);
        due("behind", grammar(x, "S=a;;"), -2 - 4);
        due("has a part already", grammar(x, "S=a;T=b;S=c;"), -2 - 8);
        due("no part", grammar(x, "S=aT|U; U=VS;"), -2 - 3);
        due("no part, other fault behind it", grammar(x, "S=aT|b;;"), -2 - 7);
        due("part behind its use", grammar(x, "S=aT;T=b;"), 2);
        due("six", grammar(x, "S=abcSSS;"), 1);
        due("seven", grammar(x, "S=abcSSSS;"), -2 - 8);
        due("seven", grammar(x, "S=|abc defg;"), -2 - 10);
        x = new GrammarGuard();
        String ten = "A=;B=;C=;D=;E=;F=;G=;H=;I=;Z=ABC;";
        due("ten", grammar(x, ten), 10);
        due("eleven", grammar(x, ten + "K=;"), -2 - ten.length());
        due("eleven, also there already", grammar(x, ten + "A=;"), -2 - ten.length());
        due("an eleventh one without a part", grammar(x, "A=K;" + ten.substring(3)), -2 - 2);
        String thirty = "S=" + "|".repeat(29);
        due("thirty", grammar(x, thirty + ";"), 30);
        due("31st empty", grammar(x, thirty + "|;"), -2 - 32);
        due("31st empty, more behind", grammar(x, thirty + "||;"), -2 - 32);
        due("31st letter", grammar(x, thirty + "|  a;"), -2 - 34);
        due("31st in the next part", grammar(x, thirty + ";T=a;"), -2 - 34);
        due("ends before the 31st", grammar(x, thirty + "|"), -2 - 32);
        due("stays", x.count(1), 30);
    }

    private static void expression() {
        says(5, "by hand");
        GrammarGuard x = new GrammarGuard();
        tell(x, "ab");
        due("another", x.expression(2), -1);
        due("another", x.expression(-1), -1);
        due("signs stay", x.count(2), 2);
        due("ab", x.expression(1), 4);
        due("signs are gone", x.count(2), 0);
        due("no signs", x.expression(0), 2);
        due("blanks", expression(x, 0, "  "), 2);
        due("0", expression(x, 0, "0"), 1);
        due("(0)", expression(x, 0, "(0)"), 1);
        due("()", expression(x, 0, "()"), 2);
        due("|&|", expression(x, 0, "|&|"), 2);
        due("a", expression(x, 0, " a "), 3);
        due("a&b", expression(x, 0, "a&b"), 1);
        due("a|b&a|c", expression(x, 0, "a|b&a|c"), 3);
        due("only a", x.isLast(0, x.next(0, 0, 0)) * 2 + x.isLast(0, x.next(0, 0, 1)), 2);
        due(".*", expression(x, 0, ".*"), 1);
        due("!0", expression(x, 0, "!0"), 1);
        due("0*", expression(x, 0, "0*"), 2);
        due("!a* is not (!a)*", expression(x, 0, "!a*"), 2);
        due("(!a)*", expression(x, 0, "(!a)*"), 3);
        due("!!a", expression(x, 0, "!!a"), 3);
        due("a+*?", expression(x, 0, "a+*?"), 2);
        due("a?+", expression(x, 0, "a?+"), 2);
        due("aa stays apart", expression(x, 0, "(aa)*(bb)*"), 5);
        due("star first", expression(x, 1, "*a"), -2);
        due("plus behind |", expression(x, 1, "a| +"), -2 - 3);
        due("? behind (", expression(x, 1, "(?a)"), -2 - 1);
        due("* behind !", expression(x, 1, "a!*"), -2 - 2);
        due("| behind !", expression(x, 1, "!|a"), -2 - 1);
        due("& behind !", expression(x, 1, "!&a"), -2 - 1);
        due(") behind !", expression(x, 1, "(!)"), -2 - 2);
        due("end behind !", expression(x, 1, "a! "), -2 - 3);
        due(") alone", expression(x, 1, "a)"), -2 - 1);
        due("( alone", expression(x, 1, "(a"), -2 - 2);
        due("(( )", expression(x, 1, "((a) "), -2 - 5);
        due("k", expression(x, 1, "ak"), -2 - 1);
        due("A", expression(x, 1, "A"), -2);
        due("1", expression(x, 1, "a1"), -2 - 1);
        due("stays", x.isLast(1, -1), 4);
        due("15 deep", expression(x, 1, "(".repeat(15) + "a" + ")".repeat(15)), 3);
        due("16 deep", expression(x, 1, "(".repeat(16) + "a" + ")".repeat(16)), -2 - 15);
        due("15 deep twice", expression(x, 1, ("(".repeat(15) + "a" + ")".repeat(15)).repeat(2)), 4);
    }

    private static void machineNumbers() {
        says(5, "by hand");
        GrammarGuard x = new GrammarGuard();
        expression(x, 0, "b");
        due("a of b", x.next(0, 0, 0), 1);
        due("b of b", x.next(0, 0, 1), 2);
        due("last of b", x.isLast(0, 2), 1);
        expression(x, 0, "a");
        due("a of a", x.next(0, 0, 0), 1);
        due("b of a", x.next(0, 0, 1), 2);
        expression(x, 0, "j|ca");
        due("a", x.next(0, 0, 0), 1);
        due("c", x.next(0, 0, 2), 2);
        due("j", x.next(0, 0, 9), 3);
        due("ca", x.next(0, 2, 0), 3);
        due("cj", x.next(0, 2, 9), 1);
    }

    private static void greatExpressions() {
        says(5, "by hand");
        GrammarGuard x = new GrammarGuard();
        expression(x, 0, "ab");
        due("40 states", expression(x, 1, "a".repeat(38)), 40);
        due("41 states", expression(x, 0, "a".repeat(39)), -1000);
        due("32 states", expression(x, 1, ".*a...."), 32);
        due("64 states", expression(x, 0, ".*a....."), -1000);
        due("a part is GREAT", expression(x, 0, "(" + "a".repeat(39) + ")&b"), -1000);
        due("a fault goes ahead", expression(x, 0, "a".repeat(60) + "k"), -2 - 60);
        due("stays", x.isLast(0, -1), 4);
        due("many places", expression(x, 1, ".*(a........(.*))"), 10);
        due("too many places", expression(x, 0, ".*(a..........(.*))"), -1000);
        due("1974 places", expression(x, 1, "(a.b?.....(b|c)(a|.b)*|.)+"), 2);
        due("2003 places", expression(x, 0, "(ab?...(a|b)..(a|b)(b|c)a(.*)|.)+"), -1000);
        due("the same, part by part", expression(x, 1, ".*a..(.*)"), 4);
    }

    private static void count() {
        says(6, "by hand");
        GrammarGuard x = withGrammar("S=a|bT;T=;");
        word(x, "ab");
        tell(x, "abc ");
        due("variables", x.count(0), 2);
        due("rules", x.count(1), 3);
        due("signs", x.count(2), 4);
        due("letters", x.count(3), 2);
        due("-1", x.count(-1), -1);
        due("4", x.count(4), -1);
        due("least", x.count(Integer.MIN_VALUE), -1);
    }

    private static void rule() {
        says(7, "by hand");
        GrammarGuard x = withGrammar("S=aTj|;T=STb;");
        due("head", x.rule(0, 0), 0);
        due("length", x.rule(0, 1), 3);
        due("a", x.rule(0, 2), 0);
        due("T", x.rule(0, 3), 101);
        due("j", x.rule(0, 4), 9);
        due("no more", x.rule(0, 5), -1);
        due("empty", x.rule(1, 1), 0);
        due("empty has none", x.rule(1, 2), -1);
        due("head", x.rule(2, 0), 1);
        due("S", x.rule(2, 2), 100);
        due("no rule", x.rule(3, 0), -1);
        due("no rule", x.rule(-1, 0), -1);
        due("what", x.rule(0, -1), -1);
        due("what", x.rule(0, Integer.MAX_VALUE), -1);
        due("what", x.rule(0, Integer.MIN_VALUE), -1);
        due("rule", x.rule(Integer.MAX_VALUE, 0), -1);
    }

    private static void variableIs(GrammarGuard x, int number, long... answers) {
        for (int what = 0; what < answers.length; what++) {
            due("variable " + number + " " + what, x.variable(number, what), answers[what]);
        }
    }

    private static void variable() {
        says(8, "by hand");
        GrammarGuard x = withGrammar("S=AB|C;A=aA|a;B=|E;C=CS;D=b;E=F;F=E|FF|;");
        variableIs(x, 0, 'S', 1, 1, 0, 1, 2, 1);
        variableIs(x, 1, 'A', 1, 1, 0, 1, 1, 1);
        variableIs(x, 2, 'B', 1, 1, 1, 0, 1, 0);
        variableIs(x, 3, 'C', 0, 0, 0, -2, -2, 0);
        variableIs(x, 4, 'D', 1, 0, 0, 1, 1, 0);
        variableIs(x, 5, 'E', 1, 1, 1, 0, 2, 0);
        variableIs(x, 6, 'F', 1, 1, 1, 0, 1, 0);
        due("what", x.variable(0, 7), -1);
        due("what", x.variable(0, -1), -1);
        due("none", x.variable(7, 0), -1);
        due("none", x.variable(-1, 0), -1);
        variableIs(withGrammar("S=SS;T=a;"), 0, 'S', 0, 0, 0, -2, -2, 0);
        variableIs(withGrammar("S=SS;T=a;"), 1, 'T', 1, 0, 0, 1, 1, 0);
        variableIs(withGrammar("S=TS|;T=|U;U=T;"), 0, 'S', 1, 1, 1, 0, 1, 0);
        variableIs(withGrammar("S=TS|;T=|a;"), 0, 'S', 1, 1, 1, 0, 1, 1);
        variableIs(withGrammar("S=aT;T=S;"), 0, 'S', 0, 0, 0, -2, -2, 0);
        variableIs(withGrammar("S=aT|b;T=SU;U=U;"), 0, 'S', 1, 1, 0, 1, 1, 0);
        variableIs(withGrammar("S=aaaaaa|T;T=U;U=b;"), 0, 'S', 1, 1, 0, 1, 1, 0);
        GrammarGuard big = withGrammar("A=BBBBBB;B=CCCCCC;C=DDDDDD;D=EEEEEE;E=FFFFFF;F=GGGGGG;G=HHHHHH;H=IIIIII;I=JJJJJJ;J=aaaaaa;");
        variableIs(big, 0, 'A', 1, 1, 0, 60466176, 10, 0);
    }

    private static void trees() {
        says(9, "by hand");
        GrammarGuard x = withGrammar("S=SS|a|b;T=aa;");
        due("no letters", x.trees(0), 0);
        word(x, "ab");
        due("2", x.trees(0), 1);
        due("another variable", x.trees(1), 0);
        word(x, "aaaa");
        due("4", x.trees(0), 5);
        word(x, "aa");
        due("T", x.trees(1), 1);
        word(x, "a".repeat(40));
        due("40", x.trees(0), MOST);
        word(x, "a".repeat(30));
        due("30", x.trees(0), 1002242216651368L);
        word(x, "ac");
        due("c", x.trees(0), 0);
        due("none such", x.trees(2), -1);
        due("none such", x.trees(-1), -1);
        grammar(x, "S=aSb|T|;T=T|a;U=c|UV;V=|VV;");
        word(x, "ab");
        due("as before", x.trees(0), 1);
        word(x, "aab");
        due("no end", x.trees(0), -2);
        word(x, "c");
        due("no end of empty ones", x.trees(2), -2);
        due("no word", x.trees(0), 0);
        word(x, "");
        due("one empty one", x.trees(0), 1);
        due("no end of empty ones", x.trees(3), -2);
        grammar(x, "S=AA;A=BB;B=CC;C=||||;");
        due("empty ones, many", x.trees(0), 5L * 5 * 5 * 5 * 5 * 5 * 5 * 5);
    }

    private static void treesOf() {
        says(10, "by hand");
        GrammarGuard x = withGrammar("S=SS|a|b;");
        due("0", x.treesOf(0), 0);
        due("1", x.treesOf(1), 2);
        due("2", x.treesOf(2), 4);
        due("3", x.treesOf(3), 16);
        due("40", x.treesOf(40), MOST);
        due("41", x.treesOf(41), -1);
        due("-1", x.treesOf(-1), -1);
        grammar(x, "S=aS|T;T=|bTc|U;U=dU;");
        due("0", x.treesOf(0), 1);
        due("1", x.treesOf(1), 1);
        due("2", x.treesOf(2), 2);
        due("40", x.treesOf(40), 21);
        grammar(x, "S=aT|b;T=T|;");
        due("no end at 1", x.treesOf(1), -2);
        due("none at 2", x.treesOf(2), 0);
        grammar(x, "S=SS|a|;");
        due("no end", x.treesOf(0), -2);
        due("no end", x.treesOf(7), -2);
    }

    private static void next() {
        says(11, "by hand");
        GrammarGuard x = new GrammarGuard();
        expression(x, 1, "ab");
        due("a", x.next(1, 0, 0), 1);
        due("b", x.next(1, 0, 1), 2);
        due("ab", x.next(1, 1, 1), 3);
        due("aa", x.next(1, 1, 0), 2);
        due("other", x.next(0, 0, 0), 0);
        due("which", x.next(2, 0, 0), -1);
        due("which", x.next(-1, 0, 0), -1);
        due("state", x.next(1, 4, 0), -1);
        due("state", x.next(1, -1, 0), -1);
        due("letter", x.next(1, 0, 10), -1);
        due("letter", x.next(1, 0, -1), -1);
        due("state", x.next(0, 1, 0), -1);
    }

    private static void isLast() {
        says(12, "by hand");
        GrammarGuard x = new GrammarGuard();
        expression(x, 1, "ab");
        due("how many", x.isLast(1, -1), 4);
        due("3", x.isLast(1, 3), 1);
        due("2", x.isLast(1, 2), 0);
        due("state", x.isLast(1, 4), -1);
        due("state", x.isLast(1, -2), -1);
        due("which", x.isLast(2, -1), -1);
        due("which", x.isLast(-1, 0), -1);
        expression(x, 0, "!0");
        due("all", x.isLast(0, 0), 1);
    }

    private static void has() {
        says(13, "by hand");
        GrammarGuard x = new GrammarGuard();
        expression(x, 0, "(ab)*");
        expression(x, 1, "!(.*bb.*)");
        due("none", x.has(0), 1);
        word(x, "abab");
        due("abab", x.has(0), 1);
        due("abab", x.has(1), 1);
        word(x, "abb");
        due("abb", x.has(0), 0);
        due("abb", x.has(1), 0);
        due("which", x.has(2), -1);
        due("which", x.has(-1), -1);
    }

    private static void apart() {
        says(14, "by hand");
        GrammarGuard x = new GrammarGuard();
        expression(x, 0, "(a|b)*b");
        expression(x, 1, "a*|bb|b");
        due("0 alone", x.apart(0), 2);
        due("it is ab", x.has(0) * 2 + x.has(1), 2);
        grammar(x, "S=ab;");
        due("it is ab", x.trees(0), 1);
        due("1 alone", x.apart(1), 0);
        due("both", x.apart(2), 1);
        due("neither", x.apart(3), 1);
        due("it is c", x.has(0) + x.has(1), 0);
        due("4", x.apart(4), -1);
        due("-1", x.apart(-1), -1);
        due("stays", x.count(3), 1);
        expression(x, 0, "(aaaaaa)+");
        expression(x, 1, "(aaaaaaa)+");
        due("42 letters", x.apart(2), -3);
        due("stays", x.count(3), 1);
        expression(x, 0, "(aaaaa)+");
        due("35 letters", x.apart(2), 35);
        expression(x, 0, "(aaaaaaaa)+");
        expression(x, 1, "(aaaaa)+");
        due("40 letters", x.apart(2), 40);
        due("40 letters", x.count(3), 40);
        expression(x, 0, "a.*");
        expression(x, 1, "!(a.*)");
        due("no word", x.apart(2), -2);
        due("no word", x.apart(3), -2);
        due("stays", x.count(3), 40);
        expression(x, 0, "b|c|aa");
        expression(x, 1, "c|d");
        grammar(x, "S=b;T=d;");
        due("b goes ahead", x.apart(0), 1);
        due("b", x.trees(0), 1);
        due("d", x.apart(1), 1);
        due("d", x.trees(1), 1);
    }

    private static void within() {
        says(15, "by hand");
        GrammarGuard x = with("S=aSb|;", "a*b*", "(ab)*");
        due("all", x.within(0), 1);
        due("none at hand", x.witness(0), -2);
        due("not all", x.within(1), 0);
        due("aabb", x.witness(0), 4);
        due("which", x.within(2), -1);
        due("which", x.within(-1), -1);
        due("still at hand", x.witness(0), 4);
        due("all", x.within(0), 1);
        due("none at hand", x.letter(0), -2);
        grammar(x, "S=Sa;");
        due("no words", x.within(0), 1);
        expression(x, 0, "0");
        due("no words", x.within(0), 1);
    }

    private static void witness() {
        says(16, "by hand");
        GrammarGuard x = with("S=aSb|T;T=cT|d;", "a*dc*b*|!(.*d.*)", "0");
        due("not all", x.within(0), 0);
        due("adb or cd", x.witness(0), 2);
        due("height", x.witness(1), 3);
        due("nodes", x.witness(2), 3);
        due("which", x.witness(4), -1);
        due("which", x.witness(-1), -1);
        long end = x.witness(3);
        grammar(x, "S=a;");
        expression(x, 0, "a");
        word(x, "b");
        x.product(0, 0);
        x.meets(0, 1);
        due("length stays", x.witness(0), 2);
        due("height stays", x.witness(1), 3);
        due("nodes stay", x.witness(2), 3);
        due("end stays", x.witness(3), end);
        due("letter stays", x.letter(0), 2);
        due("node stays", x.node(2, 1), 3);
        due("all", x.within(0), 1);
        due("none", x.witness(4), -2);
        equals();
    }

    /** Shortest word, then height, then rule, then states, and among roots the least end. */
    private static void equals() {
        GrammarGuard x = with("S=aa|T|b;T=c;", "0", "");
        due("within", x.within(0), 0);
        due("height goes ahead of rule", x.node(0, 1), 2);
        x = with("S=T|U;T=a;U=b;", "0", "");
        due("within", x.within(0), 0);
        due("least rule", x.node(0, 1), 0);
        x = with("S=b|a;", "!(a|b)", "");
        due("within", x.within(0), 0);
        due("one end for both", x.node(0, 1), 0);
        x = with("S=b|a;", "!(ac|bd)&!(a|b)", "");
        due("within", x.within(0), 0);
        due("least end", x.node(0, 1), 1);
        due("least end", x.witness(3), 1);
        x = with("S=TT;T=b|a;", "!((a|b.)*)&0", "");
        due("within", x.within(0), 0);
        due("length", x.witness(0), 2);
    }

    private static void letterAndNode() {
        says(17, "by hand");
        GrammarGuard x = with("S=aTbTc;T=dU|;U=T;", "!(adbc)", "");
        due("within", x.within(0), 0);
        due("length", x.witness(0), 4);
        int[] word = {0, 3, 1, 2};
        for (int i = 0; i < word.length; i++) {
            due("letter " + i, x.letter(i), word[i]);
        }
        due("letter 4", x.letter(4), -2);
        due("letter -1", x.letter(-1), -2);
        due("letter most", x.letter(Long.MAX_VALUE), -2);
        due("letter least", x.letter(Long.MIN_VALUE), -2);
        says(18, "by hand");
        long[][] nodes = {{0, 0, 5, 4, 0}, {1, 1, 3, 1, 1}, {2, 3, 2, 0, 2}, {1, 2, 1, 0, 2}, {1, 2, 1, 0, 3}};
        for (int k = 0; k < nodes.length; k++) {
            due("variable of " + k, x.node(k, 0), nodes[k][0]);
            due("rule of " + k, x.node(k, 1), nodes[k][1]);
            due("nodes of " + k, x.node(k, 4), nodes[k][2]);
            due("length of " + k, x.node(k, 5), nodes[k][3]);
            due("place of " + k, x.node(k, 6), nodes[k][4]);
        }
        due("before", x.node(0, 2), 0);
        due("behind", x.node(0, 3), x.witness(3));
        due("before T", x.node(1, 2), x.next(0, 0, 0));
        due("behind T", x.node(1, 3), x.next(0, x.next(0, 0, 0), 3));
        due("what", x.node(0, 7), -1);
        due("what", x.node(4, -1), -1);
        due("none such", x.node(5, 0), -2);
        due("none such, nor what", x.node(5, 9), -2);
        due("none such", x.node(-1, 0), -2);
        due("none such", x.node(Long.MAX_VALUE, 0), -2);
        due("none such", x.node(Long.MIN_VALUE, 0), -2);
        expression(x, 1, "!0");
        due("within", x.within(1), 1);
        due("none at hand", x.node(0, 9), -2);
    }

    /** Words of brackets a .. b in which c stands 15 deep alone, doubled many times on the way. */
    private static void longWitness() {
        says(18, "by hand");
        String nest = "c+";
        for (int i = 0; i < 14; i++) {
            nest = "(a" + nest + "b)+";
        }
        GrammarGuard x = with("S=aXb;X=YYYYYY;Y=aXb|c;", "!(" + nest + ")", "");
        due("within", x.within(0), 0);
        long length = 6;
        long nodes = 7;
        for (int i = 0; i < 13; i++) {
            length = 6 * (length + 2);
            nodes = 6 * (nodes + 1) + 1;
        }
        due("length", x.witness(0), length + 2);
        due("nodes", x.witness(2), nodes + 1);
        due("height", x.witness(1), 29);
        due("last letter", x.letter(length + 1), 1);
        due("no more", x.letter(length + 2), -2);
        due("last node", x.node(nodes, 0), 2);
        due("its rule", x.node(nodes, 1), 3);
        due("its place", x.node(nodes, 6), length + 2 - 15);
        due("no more", x.node(nodes + 1, 0), -2);
        x = with("S=aXb;X=YYYYYY;Y=ZZZZZZ;Z=UUUUUU;U=VVVVVV;V=WWWWWW;W=aXb|c;", "!(" + nest + ")", "");
        due("within", x.within(0), 0);
        due("length", x.witness(0), MOST);
        due("nodes", x.witness(2), MOST);
        due("height", x.witness(1), 85);
        due("a late letter", x.letter(MOST - 1), 2);
        due("none later", x.letter(MOST), -2);
        due("a late node", x.node(MOST - 1, 5), 6);
        due("none later", x.node(MOST, 5), -2);
        due("root's nodes", x.node(1, 4), MOST);
        says(19, "by hand");
        due("copy", x.copy(), 40);
        due("its letters", x.count(3), 40);
    }

    private static void copy() {
        says(19, "by hand");
        GrammarGuard x = with("S=aSb|;", "!(aabb)", "0");
        due("within", x.within(0), 0);
        due("copy", x.copy(), 4);
        due("letters", x.count(3), 4);
        due("aabb", x.has(0), 0);
        due("a tree", x.trees(0), 1);
        due("shorter", x.within(1), 0);
        due("empty", x.copy(), 0);
        due("no letters", x.count(3), 0);
        word(x, "abc");
        expression(x, 1, "!0");
        due("all", x.within(1), 1);
        due("none", x.copy(), -2);
        due("stays", x.count(3), 3);
    }

    private static void product() {
        says(20, "by hand");
        GrammarGuard x = with("S=aSb|;T=a;", "a*b*", "(ab)*");
        due("fertile", x.product(0, 0), 8);
        due("standing", x.product(0, 1), 2);
        due("ways", x.product(0, 2), 10);
        due("what", x.product(0, 3), -1);
        due("what", x.product(0, -1), -1);
        due("which", x.product(2, 0), -1);
        due("which", x.product(-1, 0), -1);
        due("fertile", x.product(1, 0), 8);
        due("standing", x.product(1, 1), 5);
        grammar(x, "S=S;");
        due("none", x.product(1, 0) + x.product(1, 1) + x.product(1, 2), 0);
        due("none", x.product(0, 0) + x.product(0, 1) + x.product(0, 2), 0);
        expression(x, 0, "0");
        grammar(x, "S=SS|a;T=SS;");
        due("fertile", x.product(0, 0), 2);
        due("standing", x.product(0, 1), 1);
        due("ways", x.product(0, 2), 3);
    }

    private static void meets() {
        says(21, "by hand");
        GrammarGuard x = with("S=aSb|;", "a*b*", "a+");
        due("in", x.meets(0, 0), 1);
        due("out", x.meets(0, 1), 0);
        due("in", x.meets(1, 0), 0);
        due("out", x.meets(1, 1), 1);
        due("what", x.meets(0, 2), -1);
        due("what", x.meets(0, -1), -1);
        due("which", x.meets(2, 0), -1);
        due("which", x.meets(-1, 0), -1);
        expression(x, 0, "ab|ba");
        due("in", x.meets(0, 0), 1);
        due("out", x.meets(0, 1), 1);
        grammar(x, "S=SS;");
        due("in", x.meets(0, 0), 0);
        due("out", x.meets(0, 1), 0);
    }
}

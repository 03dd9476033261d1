import java.util.ArrayList;
import java.util.List;

/**
 * What was told before leaves nothing behind: an object that had other texts, larger ones too, faults and GREAT ones,
 * answers as a new object does. Each method is for one sentence.
 */
public final class BoundaryAgain extends Talk {
    private static final String[][] TEXTS = {
        {"S=SS|a|;T=bS|U;U=TT|;", "!(a|bc)", "(ab)*", "ab"},
        {"S=S;", "0", "", ""},
        {"S=aT|bU|cS;T=|SU;U=T|c;", "(..)*", "a|b|ac|bd", "ca"},
        {"S=b;", "!b", "0", "b"},
        {"S=aSb|;T=S;", "a*b", "!(aabb)", "aabb"},
        {"S=T;T=U;U=V;V=b|aS;", ".*a..", "b|ab", "ab"},
        {"S=T|a;T=S|b;", "a*b", "(a|b)*", "a"},
        {"S=aT;T=b;", "a*b", "b*", "ab"},
    };

    public static void main(String[] args) {
        becomesTheGrammar();
        becomesTheExpression();
        becomesTheWord();
        faultsLeaveNothing();
        greatOnesLeaveNothing();
        witnessIsFoundAnew();
        apartIsFoundAnew();
        productIsFoundAnew();
        end();
    }

    private static void set(GrammarGuard x, String[] texts) {
        grammar(x, texts[0]);
        expression(x, 0, texts[1]);
        expression(x, 1, texts[2]);
        word(x, texts[3]);
    }

    private static List<Long> answersOfGrammar(GrammarGuard x) {
        List<Long> all = new ArrayList<>();
        for (int what = 0; what < 4; what++) {
            all.add((long) x.count(what));
            for (int i = 0; i < 6; i++) {
                all.add((long) x.rule(i, what));
            }
        }
        for (int i = 0; i < 5; i++) {
            for (int what = 0; what < 7; what++) {
                all.add(x.variable(i, what));
            }
            all.add(x.trees(i));
            all.add(x.treesOf(i));
        }
        return all;
    }

    private static List<Long> answersOfMachines(GrammarGuard x) {
        List<Long> all = new ArrayList<>();
        for (int which = 0; which < 2; which++) {
            all.add((long) x.has(which));
            for (int state = -1; state < 5; state++) {
                all.add((long) x.isLast(which, state));
                for (int letter = 0; letter < 4; letter++) {
                    all.add((long) x.next(which, state, letter));
                }
            }
        }
        return all;
    }

    private static List<Long> answersOfProduct(GrammarGuard x) {
        List<Long> all = new ArrayList<>();
        for (int which = 0; which < 2; which++) {
            for (int what = 0; what < 3; what++) {
                all.add(x.product(which, what));
                all.add((long) x.meets(which, what));
            }
        }
        return all;
    }

    private static List<Long> answersOfWitness(GrammarGuard x) {
        List<Long> all = new ArrayList<>();
        for (int which = 0; which < 2; which++) {
            all.add((long) x.within(which));
            for (int i = 0; i < 4; i++) {
                all.add(x.witness(i));
                all.add((long) x.letter(i));
                for (int what = 0; what < 7; what++) {
                    all.add(x.node(i, what));
                }
            }
        }
        return all;
    }

    private static List<Long> answersOfApart(GrammarGuard x) {
        List<Long> all = new ArrayList<>();
        for (int what = 0; what < 4; what++) {
            all.add((long) x.apart(what));
            all.add((long) x.count(3));
            all.add((long) x.has(0));
            all.add((long) x.has(1));
            all.add(x.trees(0));
        }
        return all;
    }

    private static void dueAlike(String what, List<Long> got, List<Long> want) {
        for (int i = 0; i < want.size(); i++) {
            due(what + ", answer " + i, got.get(i), want.get(i));
        }
    }

    private static String names(int before, int now) {
        return TEXTS[now][0] + " behind " + TEXTS[before][0];
    }

    private static GrammarGuard fresh(int now) {
        GrammarGuard x = new GrammarGuard();
        set(x, TEXTS[now]);
        return x;
    }

    private static void becomesTheGrammar() {
        says(4, "The signs, which are gone then, become the grammar");
        for (int before = 0; before < TEXTS.length; before++) {
            for (int now = 0; now < TEXTS.length; now++) {
                GrammarGuard x = fresh(before);
                answersOfGrammar(x);
                set(x, TEXTS[now]);
                dueAlike(names(before, now), answersOfGrammar(x), answersOfGrammar(fresh(now)));
            }
        }
    }

    private static void becomesTheExpression() {
        says(5, "The signs, which are gone then, become expression 0 or 1");
        for (int before = 0; before < TEXTS.length; before++) {
            for (int now = 0; now < TEXTS.length; now++) {
                GrammarGuard x = fresh(before);
                set(x, TEXTS[now]);
                dueAlike(names(before, now), answersOfMachines(x), answersOfMachines(fresh(now)));
            }
        }
    }

    private static void becomesTheWord() {
        says(3, "The signs, which are gone then, become THE WORD");
        String[] words = {"abab", "", "b", "a", "ba", "ab"};
        GrammarGuard x = with("S=SS|ab|;", "(ab)*", "b*a?");
        for (String word : words) {
            word(x, word);
            GrammarGuard other = with("S=SS|ab|;", "(ab)*", "b*a?");
            word(other, word);
            due("trees of " + word, x.trees(0), other.trees(0));
            due("has of " + word, x.has(0), other.has(0));
            due("has of " + word, x.has(1), other.has(1));
            due("count of " + word, x.count(3), word.length());
        }
    }

    private static void faultsLeaveNothing() {
        says(5, "the first sign that can't come .. it stays then");
        String[] faults = {"a", "a!", "((a|!", "a&b|!!(k", "(a)*)", "a*|b&!", "(".repeat(16)};
        String[] texts = {"*", "|", ")", "a)", "", "ab", "!a", "a&b", "a|b", "(a)"};
        for (String fault : faults) {
            for (String text : texts) {
                GrammarGuard x = new GrammarGuard();
                expression(x, 1, fault);
                due(text + " behind " + fault, expression(x, 0, text), expressionOf(text));
            }
        }
        says(4, "or - 2 less the place of its FAULT; the grammar stays then.");
        String[] parts = {"S", "S=", "S=aT", "S=a|", "S=a;S", "S=a;T=U;", "S=aaaaaaa", "A=;B=;C=;"};
        String[] grammars = {"S=a;", "=a;", "a;", "T=U;U=;", "S=T;", ";", "", "A=A;"};
        for (String part : parts) {
            for (String grammar : grammars) {
                GrammarGuard x = new GrammarGuard();
                grammar(x, part);
                due(grammar + " behind " + part, grammar(x, grammar), grammarOf(grammar));
            }
        }
    }

    private static void greatOnesLeaveNothing() {
        says(5, "- 1,000 GREAT; it stays then");
        String great = "a".repeat(39);
        String[] before = {great, "(((" + great + ")))", "!(!" + great + ")", "b|" + great, "b&c|" + great,
            "b(c|d&!(" + great + "))", ".*a.....", "((a|bb).(c|.a)(ab|.)...b?.(a|bb)|.)+"};
        String[] texts = {"", "ab", "!a", "a|b", "a|b&b", "(a)(b)", "!(a*)b", "c"};
        for (String first : before) {
            for (String text : texts) {
                GrammarGuard x = new GrammarGuard();
                due(first, expression(x, 0, first), GREAT_EXPRESSION);
                GrammarGuard other = new GrammarGuard();
                due(text + " behind " + first, expression(x, 0, text), expression(other, 0, text));
                dueAlike(text + " behind " + first, answersOfMachines(x), answersOfMachines(other));
            }
        }
    }

    private static void witnessIsFoundAnew() {
        says(15, "or 0, and its WITNESS is at hand (none is with 1)");
        for (int before = 0; before < TEXTS.length; before++) {
            for (int now = 0; now < TEXTS.length; now++) {
                GrammarGuard x = fresh(before);
                answersOfWitness(x);
                set(x, TEXTS[now]);
                dueAlike(names(before, now), answersOfWitness(x), answersOfWitness(fresh(now)));
            }
        }
    }

    private static void apartIsFoundAnew() {
        says(14, "the first one becomes THE WORD: its length");
        for (int before = 0; before < TEXTS.length; before++) {
            for (int now = 0; now < TEXTS.length; now++) {
                GrammarGuard x = fresh(before);
                answersOfApart(x);
                set(x, TEXTS[now]);
                dueAlike(names(before, now), answersOfApart(x), answersOfApart(fresh(now)));
            }
        }
        GrammarGuard x = with("S=b;", "b|c", "c|d");
        due("of 0 alone", x.apart(0), 1);
        due("b", x.trees(0), 1);
        due("of both", x.apart(2), 1);
        due("c", x.trees(0), 0);
        due("of 0 alone, again", x.apart(0), 1);
        due("b", x.trees(0), 1);
    }

    private static void productIsFoundAnew() {
        says(20, "Of the grammar and an expression's machine");
        for (int before = 0; before < TEXTS.length; before++) {
            for (int now = 0; now < TEXTS.length; now++) {
                GrammarGuard x = fresh(before);
                answersOfProduct(x);
                answersOfProduct(x);
                set(x, TEXTS[now]);
                dueAlike(names(before, now), answersOfProduct(x), answersOfProduct(fresh(now)));
            }
        }
        GrammarGuard x = with("S=aS|;", "(aa)*", "(aaa)*");
        due("fertile", x.product(0, 0), 5);
        due("fertile, by the other one", x.product(1, 0), 10);
        expression(x, 0, "(aaa)*");
        due("another expression", x.product(0, 0), 10);
        grammar(x, "S=a;");
        due("another grammar", x.product(0, 0), 4);
        due("the other expression's", x.product(1, 0), 4);
        due("meets", x.meets(0, 0), 0);
        expression(x, 0, "a");
        due("meets another expression", x.meets(0, 0), 1);
        due("within another expression", x.within(0), 1);
    }
}

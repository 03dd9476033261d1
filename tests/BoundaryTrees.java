/** Boundary cases of promises 6 to 10 and of the Terms TREE, WORD and HEIGHT: each method is for one sentence. */
public final class BoundaryTrees extends Talk {
    public static void main(String[] args) {
        countOfEach();
        countWithoutGrammar();
        countOfAnother();
        ruleOfEach();
        noSuchRule();
        nameOfVariable();
        whetherItHasTrees();
        standsInATreeOfTheStart();
        treeWithoutLetters();
        lengthOfShortestWord();
        leastHeight();
        wordsOfMoreThanAnyLength();
        noSuchVariable();
        treesOfTheWord();
        noEndOfTrees();
        treesOfNoSuchVariable();
        treesOfSoManyLetters();
        noEndOfTreesOfALength();
        treesOfAnotherNumber();
        numbersAboveFourMillionMillionMillion();
        end();
    }

    private static void countOfEach() {
        says(6, "Of the grammar: 0 variables, 1 rules, 2 signs told now, 3 letters of THE WORD.");
        GrammarGuard x = withGrammar("S=a|bT|c;T=;");
        word(x, "abcdefg");
        tell(x, " a b ");
        due("variables", x.count(0), 2);
        due("rules", x.count(1), 4);
        due("signs, blanks being some", x.count(2), 5);
        due("letters", x.count(3), 7);
        GrammarGuard most = withGrammar("A=" + "|".repeat(20) + ";B=;C=;D=;E=;F=;G=;H=;I=;J=;");
        due("ten variables", most.count(0), 10);
        due("thirty rules", most.count(1), 30);
    }

    private static void countWithoutGrammar() {
        says(6, "(0 and 1 are 0 without one.)");
        GrammarGuard x = new GrammarGuard();
        due("variables", x.count(0), 0);
        due("rules", x.count(1), 0);
        grammar(x, "S=T;");
        due("variables behind a fault", x.count(0), 0);
        due("rules behind a fault", x.count(1), 0);
    }

    private static void countOfAnother() {
        says(6, "BAD: another number.");
        int[] others = {-1, 4, 256, LEAST_INT, MOST_INT};
        for (int other : others) {
            due("what " + other, withGrammar("S=a;").count(other), BAD);
            due("what " + other + " without a grammar", new GrammarGuard().count(other), BAD);
        }
    }

    private static void ruleOfEach() {
        says(7, "Of a rule: 0 its variable, 1 how many letters and variables it has, 2 and on: these");
        GrammarGuard x = withGrammar("S=aBCDEJ|;B=;C=;D=;E=;F=;G=;H=;I=;J=jS;");
        int[][] rules = {{0, 6, 0, 101, 102, 103, 104, 109}, {0, 0}, {1, 0}, {2, 0}, {3, 0}, {4, 0}, {5, 0}, {6, 0},
            {7, 0}, {8, 0}, {9, 2, 9, 100}};
        for (int r = 0; r < rules.length; r++) {
            for (int what = 0; what < rules[r].length; what++) {
                due("rule " + r + " " + what, x.rule(r, what), rules[r][what]);
            }
            due("behind the last of rule " + r, x.rule(r, rules[r].length), BAD);
        }
    }

    private static void noSuchRule() {
        says(7, "BAD: none such.");
        GrammarGuard x = withGrammar("S=" + "a|".repeat(29) + "bcdefg;");
        due("the last rule", x.rule(29, 7), 6);
        due("the 7th of six", x.rule(29, 8), BAD);
        due("rule 30", x.rule(30, 0), BAD);
        due("rule - 1", x.rule(-1, 0), BAD);
        due("the least rule", x.rule(LEAST_INT, 0), BAD);
        due("the greatest rule", x.rule(MOST_INT, 0), BAD);
        due("what - 1", x.rule(0, -1), BAD);
        due("the least what", x.rule(0, LEAST_INT), BAD);
        due("the next to the least what", x.rule(0, LEAST_INT + 1), BAD);
        due("the greatest what", x.rule(0, MOST_INT), BAD);
        due("a rule of a grammar before", ruleOfGrammarBefore(), BAD);
    }

    private static int ruleOfGrammarBefore() {
        GrammarGuard x = withGrammar("S=a|b|c;");
        grammar(x, "S=a|b;");
        return x.rule(2, 0);
    }

    private static void dueOfVariables(String grammar, int what, long... answers) {
        GrammarGuard x = withGrammar(grammar);
        for (int i = 0; i < answers.length; i++) {
            due("variable(" + i + ", " + what + ") of " + grammar, x.variable(i, what), answers[i]);
        }
    }

    private static void nameOfVariable() {
        says(8, "Of a variable: 0 its name (as a byte)");
        dueOfVariables("Z=;A=;M=;", 0, 90, 65, 77);
    }

    private static void whetherItHasTrees() {
        says(8, "1 whether it has TREES");
        dueOfVariables("S=;", 1, 1);
        dueOfVariables("S=S;", 1, 0);
        dueOfVariables("S=aSb;", 1, 0);
        dueOfVariables("S=TU;T=a;U=U;", 1, 0, 1, 0);
        dueOfVariables("S=T;T=U;U=V;V=W;W=a|S;", 1, 1, 1, 1, 1, 1);
        dueOfVariables("A=B;B=C;C=D;D=E;E=F;F=G;G=H;H=I;I=J;J=;", 1, 1, 1, 1, 1, 1, 1, 1, 1, 1, 1);
        dueOfVariables("A=B;B=C;C=D;D=E;E=F;F=G;G=H;H=I;I=J;J=A;", 1, 0, 0, 0, 0, 0, 0, 0, 0, 0, 0);
    }

    private static void standsInATreeOfTheStart() {
        says(8, "2 whether it stands in a TREE of THE START (1 or 0)");
        dueOfVariables("S=a;", 2, 1);
        dueOfVariables("S=S;T=a;", 2, 0, 0);
        dueOfVariables("S=a;T=b;", 2, 1, 0);
        dueOfVariables("S=a|TU;T=b;U=U;", 2, 1, 0, 0);
        dueOfVariables("S=a|T;T=TV;V=b;", 2, 1, 0, 0);
        dueOfVariables("A=B;B=C;C=D;D=E;E=F;F=G;G=H;H=I;I=J;J=;", 2, 1, 1, 1, 1, 1, 1, 1, 1, 1, 1);
        dueOfVariables("A=J|;B=;C=B;D=C;E=D;F=E;G=F;H=G;I=H;J=I;", 2, 1, 1, 1, 1, 1, 1, 1, 1, 1, 1);
    }

    private static void treeWithoutLetters() {
        says(8, "3 whether it has a TREE without letters (1 or 0)");
        dueOfVariables("S=;", 3, 1);
        dueOfVariables("S=a;", 3, 0);
        dueOfVariables("S=S;", 3, 0);
        dueOfVariables("S=TT|a;T=UU|a;U=a|;", 3, 1, 1, 1);
        dueOfVariables("S=TU;T=;U=b;", 3, 0, 1, 0);
        dueOfVariables("S=TU;T=;U=U;", 3, 0, 1, 0);
    }

    private static void lengthOfShortestWord() {
        says(8, "4 the length of its shortest word (NONE)");
        dueOfVariables("S=S;", 4, NONE);
        dueOfVariables("S=aS;T=b;", 4, NONE, 1);
        dueOfVariables("S=;", 4, 0);
        dueOfVariables("S=aaaaaa|T;T=UUU;U=a;", 4, 3, 3, 1);
        dueOfVariables("S=aaaaa|aaaaaa;", 4, 5);
        dueOfVariables("A=BBBBBB;B=CCCCCC;C=DDDDDD;D=EEEEEE;E=FFFFFF;F=GGGGGG;G=HHHHHH;H=IIIIII;I=JJJJJJ;J=aaaaaa;", 4,
                60466176, 10077696, 1679616, 279936, 46656, 7776, 1296, 216, 36, 6);
    }

    private static void leastHeight() {
        says(8, "5 the least HEIGHT of its TREES (NONE)");
        dueOfVariables("S=S;", 5, NONE);
        dueOfVariables("S=;", 5, 1);
        dueOfVariables("S=abc;", 5, 1);
        dueOfVariables("S=T;T=;", 5, 2, 1);
        dueOfVariables("S=TU;T=a;U=T;", 5, 3, 1, 2);
        dueOfVariables("S=TT|aaaaaa;T=;", 5, 1, 1);
        dueOfVariables("A=B;B=C;C=D;D=E;E=F;F=G;G=H;H=I;I=J;J=;", 5, 10, 9, 8, 7, 6, 5, 4, 3, 2, 1);
    }

    private static void wordsOfMoreThanAnyLength() {
        says(8, "6 whether it has words of more than any length (1 or 0)");
        dueOfVariables("S=a;", 6, 0);
        dueOfVariables("S=aS;", 6, 0);
        dueOfVariables("S=aS|;", 6, 1);
        dueOfVariables("S=S|a;", 6, 0);
        dueOfVariables("S=SS|;", 6, 0);
        dueOfVariables("S=SS|a;", 6, 1);
        dueOfVariables("S=a|SS;", 6, 1);
        dueOfVariables("S=aT;T=bUc;U=d;", 6, 0, 0, 0);
        dueOfVariables("S=ST|;T=;", 6, 0, 0);
        dueOfVariables("S=ST|;T=|a;", 6, 1, 0);
        dueOfVariables("S=T;T=U|a;U=TT;", 6, 1, 1, 1);
        dueOfVariables("S=a;T=aT|;", 6, 0, 1);
        dueOfVariables("S=aU;T=S;U=aU|;", 6, 1, 1, 1);
        dueOfVariables("S=a|T;T=aTU|b;U=U;", 6, 0, 0, 0);
    }

    private static void noSuchVariable() {
        says(8, "BAD: none such.");
        GrammarGuard x = withGrammar("A=;B=;C=;D=;E=;F=;G=;H=;I=;J=;");
        due("the last variable", x.variable(9, 0), 'J');
        int[] others = {-1, 10, LEAST_INT, MOST_INT};
        for (int other : others) {
            due("variable " + other, x.variable(other, 0), BAD);
        }
        due("what - 1", x.variable(0, -1), BAD);
        due("what 7", x.variable(0, 7), BAD);
        due("the least what", x.variable(0, LEAST_INT), BAD);
        due("the greatest what", x.variable(0, MOST_INT), BAD);
        grammar(x, "S=a;");
        due("a variable of the grammar before", x.variable(1, 0), BAD);
        due("no grammar", new GrammarGuard().variable(0, 0), BAD);
    }

    private static void dueTrees(String grammar, String word, long... answers) {
        GrammarGuard x = withGrammar(grammar);
        word(x, word);
        for (int i = 0; i < answers.length; i++) {
            due("trees(" + i + ") of " + grammar + " and '" + word + "'", x.trees(i), answers[i]);
        }
    }

    private static void treesOfTheWord() {
        says(9, "How many TREES a variable has whose WORD is THE WORD");
        dueTrees("S=a;", "", 0);
        dueTrees("S=;", "", 1);
        dueTrees("S=|;", "", 2);
        dueTrees("S=a|a|b;", "a", 2);
        dueTrees("S=TT;T=a|;", "a", 2, 1);
        dueTrees("S=a;T=S;", "a", 1, 1);
        dueTrees("A=B;B=C;C=D;D=E;E=F;F=G;G=H;H=I;I=J;J=a|a;", "a", 2, 2, 2, 2, 2, 2, 2, 2, 2, 2);
        dueTrees("A=B;B=C;C=D;D=E;E=F;F=G;G=H;H=I;I=J;J=|;", "", 2, 2, 2, 2, 2, 2, 2, 2, 2, 2);
        dueTrees("S=TTTTTT;T=a|;", "aaa", 20, 0);
        dueTrees("S=aS|;", "a".repeat(40), 1);
        dueTrees("S=aS|;", "a".repeat(39) + "b", 0);
        dueTrees("S=aSa|;", "a".repeat(39), 0);
        GrammarGuard x = withGrammar("S=SS|a;");
        word(x, "aaa");
        due("three letters", x.trees(0), 2);
        word(x, "aaaa");
        due("another word", x.trees(0), 5);
        grammar(x, "S=aS|;");
        due("another grammar", x.trees(0), 1);
    }

    private static void noEndOfTrees() {
        says(9, "NONE: there is no end of them");
        dueTrees("S=S|a;", "a", NONE);
        dueTrees("S=S|a;", "b", 0);
        dueTrees("S=S;", "", 0);
        dueTrees("S=S|;", "", NONE);
        dueTrees("S=SS|;", "", NONE);
        dueTrees("S=SS|a;", "aa", 1);
        dueTrees("S=SS|a|;", "a", NONE);
        dueTrees("S=T|a;T=S|b;", "a", NONE, NONE);
        dueTrees("S=aT|a;T=T|b;", "a", 1, 0);
        dueTrees("S=aT|a;T=T|;", "a", NONE, 0);
        dueTrees("S=aT|b;T=T|;", "b", 1, 0);
        dueTrees("S=ST|a;T=b|;", "a", NONE, 0);
        dueTrees("S=ST|a;T=b|;", "b", 0, 1);
        dueTrees("S=TU|a;T=T;U=U|;", "a", 1, 0);
        dueTrees("S=SSSSSS|a||b;", "a".repeat(40), NONE);
    }

    private static void treesOfNoSuchVariable() {
        says(9, "BAD: no such variable.");
        GrammarGuard x = withGrammar("A=;B=;C=;D=;E=;F=;G=;H=;I=;J=;");
        due("the last one", x.trees(9), 1);
        int[] others = {-1, 10, LEAST_INT, MOST_INT};
        for (int other : others) {
            due("variable " + other, x.trees(other), BAD);
        }
        due("no grammar", new GrammarGuard().trees(0), BAD);
    }

    private static void treesOfSoManyLetters() {
        says(10, "How many TREES THE START has with words of so many letters (0 .. 40)");
        GrammarGuard x = withGrammar("S=aS|bS||T;T=c;");
        due("0", x.treesOf(0), 1);
        due("1", x.treesOf(1), 3);
        due("2", x.treesOf(2), 6);
        due("39", x.treesOf(39), (1L << 39) + (1L << 38));
        due("40", x.treesOf(40), (1L << 40) + (1L << 39));
        GrammarGuard none = withGrammar("S=S;T=a;");
        due("0 of no trees", none.treesOf(0), 0);
        due("40 of no trees", none.treesOf(40), 0);
        GrammarGuard six = withGrammar("S=aaaaaa;");
        due("5 of 6", six.treesOf(5), 0);
        due("6 of 6", six.treesOf(6), 1);
        due("7 of 6", six.treesOf(7), 0);
    }

    private static void noEndOfTreesOfALength() {
        says(10, "NONE: there is no end of them");
        GrammarGuard x = withGrammar("S=aT|bb;T=T|;");
        due("0", x.treesOf(0), 0);
        due("1", x.treesOf(1), NONE);
        due("2", x.treesOf(2), 1);
        GrammarGuard all = withGrammar("S=SS|a|;");
        due("0 of all", all.treesOf(0), NONE);
        due("40 of all", all.treesOf(40), NONE);
        due("a circle that has no tree", withGrammar("S=T|a;T=T;").treesOf(1), 1);
        due("a circle that does not stand below", withGrammar("S=a;T=T|a;").treesOf(1), 1);
    }

    private static void treesOfAnotherNumber() {
        says(10, "BAD: no grammar, another number.");
        GrammarGuard x = withGrammar("S=aS|;");
        int[] others = {-1, 41, 256, LEAST_INT, MOST_INT};
        for (int other : others) {
            due("letters " + other, x.treesOf(other), BAD);
        }
        due("no grammar", new GrammarGuard().treesOf(0), BAD);
        due("no grammar", new GrammarGuard().treesOf(40), BAD);
    }

    private static void numbersAboveFourMillionMillionMillion() {
        says(0, "Lengths and numbers above 4,000,000,000,000,000,000 are told as that (of trees and treesOf)");
        String fives = "A=||||;C=AAAAAA;D=CCC;";
        String twos = "B=|;E=BBBBB;F=EEEE;";
        dueBoth("S=DA", "A=||||||;C=AAAAAA;D=CCC;", 1628413597910449L * 7);
        dueBoth("S=DAAAA", "A=||||||;C=AAAAAA;D=CCC;", 3909821048582988049L);
        dueBoth("S=DF", fives + twos, MOST);
        dueBoth("S=DF|", fives + twos, MOST);
        dueBoth("S=DF|DF|DF", fives + twos, MOST);
        dueBoth("S=DDDDDD", fives, MOST);
        dueBoth("S=DDDDDD|T", fives + "T=T|;", NONE);
    }

    /** Once as trees without letters, and once with one letter behind each first rule. */
    private static void dueBoth(String start, String others, long want) {
        GrammarGuard x = withGrammar(start + ";" + others);
        due("trees of " + start + ", " + others, x.trees(0), want);
        due("treesOf 0 of " + start + ", " + others, x.treesOf(0), want);
        GrammarGuard one = withGrammar("R=aS;" + start + ";" + others);
        due("treesOf 1 of a and " + start + ", " + others, one.treesOf(1), want);
        due("treesOf 0 of a and " + start + ", " + others, one.treesOf(0), 0);
        word(one, "a");
        due("trees of a and " + start + ", " + others, one.trees(0), want);
    }
}

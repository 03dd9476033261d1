/** Boundary cases of promise 4 and of the Terms GRAMMAR and FAULTS: each method is for one sentence. */
public final class BoundaryGrammars extends Talk {
    private static final String TEN = "A=;B=;C=;D=;E=;F=;G=;H=;I=;Z=;";
    /** 30 empty rules of one variable, but for what ends the last one. */
    private static final String THIRTY = "S=" + "|".repeat(29);

    public static void main(String[] args) {
        oneOrMoreParts();
        oneOrMoreAlternatives();
        noneToSixInARow();
        firstAndLastName();
        firstSignThatCannotCome();
        endsTooEarly();
        partAlready();
        eleventhVariable();
        variableWithoutPart();
        withoutPartIfNoOtherFault();
        thirtyFirstAlternative();
        whatEndsTheThirtyFirst();
        seventhInARow();
        rulesAsTold();
        variablesByTheirParts();
        signsAreGone();
        howManyRules();
        grammarStays();
        end();
    }

    private static void oneOrMoreParts() {
        says(0, "A GRAMMAR: one or more parts");
        due("no part", grammarOf(""), faultAt(0));
        due("no part, blanks", grammarOf("  "), faultAt(2));
        due("one part", grammarOf("S=;"), 1);
        due("two parts", grammarOf("S=;T=;"), 2);
    }

    private static void oneOrMoreAlternatives() {
        says(0, "one or more ALTERNATIVES with | between");
        due("one", grammarOf("S=a;"), 1);
        due("two", grammarOf("S=a|b;"), 2);
        due("one of none", grammarOf("S=;"), 1);
        due("two of none", grammarOf("S=|;"), 2);
        due("none behind |", grammarOf("S=a|;"), 2);
        due("none ahead of |", grammarOf("S=|a;"), 2);
    }

    private static void noneToSixInARow() {
        says(0, "An ALTERNATIVE is a row of 0 to 6 letters and VARIABLES.");
        GrammarGuard x = withGrammar("S=|aSbScS;");
        due("rules", x.count(1), 2);
        due("length of none", x.rule(0, 1), 0);
        due("length of six", x.rule(1, 1), 6);
        due("six letters", grammarOf("S=abcdef;"), 1);
        due("six variables", grammarOf("S=SSSSSS|;"), 2);
    }

    private static void firstAndLastName() {
        says(0, "a VARIABLE (A .. Z)");
        GrammarGuard x = withGrammar("A=Z;Z=A;");
        due("A", x.variable(0, 0), 'A');
        due("Z", x.variable(1, 0), 'Z');
        due("the sign ahead of A", grammarOf("@=;"), faultAt(0));
        due("the sign behind Z", grammarOf("[=;"), faultAt(0));
        due("the sign ahead of A, in a row", grammarOf("S=@;"), faultAt(2));
        due("the sign behind Z, in a row", grammarOf("S=[;"), faultAt(2));
    }

    private static void firstSignThatCannotCome() {
        says(0, "FAULTS (of the first sign that can't come");
        due("a letter for a part's variable", grammarOf("a=;"), faultAt(0));
        due("= for a part's variable", grammarOf("=;"), faultAt(0));
        due("| for a part's variable", grammarOf("|"), faultAt(0));
        due("; for a part's variable", grammarOf(";"), faultAt(0));
        due("a letter for =", grammarOf("Sa;"), faultAt(1));
        due("a variable for =", grammarOf("ST=;"), faultAt(1));
        due("; for =", grammarOf("S;"), faultAt(1));
        due("| for =", grammarOf("S|=;"), faultAt(1));
        due("= in a row", grammarOf("S=a=;"), faultAt(3));
        due("= at a row's beginning", grammarOf("S==;"), faultAt(2));
        due("a sign of expressions in a row", grammarOf("S=a*;"), faultAt(3));
        due("a digit in a row", grammarOf("S=0;"), faultAt(2));
        due("= behind |", grammarOf("S=a|=;"), faultAt(4));
        due("a letter behind a part", grammarOf("S=;a"), faultAt(3));
        due("; behind a part", grammarOf("S=;;"), faultAt(3));
        due("the first of two", grammarOf("S=k;;"), faultAt(2));
    }

    private static void endsTooEarly() {
        says(0, "how many signs there are, if it ends too early");
        due("no signs", grammarOf(""), faultAt(0));
        due("behind a variable", grammarOf("S"), faultAt(1));
        due("behind =", grammarOf("S="), faultAt(2));
        due("in a row", grammarOf("S=a"), faultAt(3));
        due("behind |", grammarOf("S=a|"), faultAt(4));
        due("behind the second part's variable", grammarOf("S=;T"), faultAt(4));
        due("behind the second part's =", grammarOf("S=;T="), faultAt(5));
        due("blanks at the end", grammarOf("S=a   "), faultAt(6));
        due("300 signs", grammarOf("S=" + "|".repeat(20) + " ".repeat(278)), faultAt(300));
    }

    private static void partAlready() {
        says(0, "also a VARIABLE that has a part already");
        due("right behind", grammarOf("S=;S=;"), faultAt(3));
        due("later", grammarOf("S=;T=;S=;"), faultAt(6));
        due("another than the first", grammarOf("S=;T=;T=;"), faultAt(6));
        due("where the text ends, too", grammarOf("S=;S"), faultAt(3));
    }

    private static void eleventhVariable() {
        says(0, "the 11th");
        GrammarGuard x = withGrammar(TEN);
        due("ten variables", x.count(0), 10);
        due("the eleventh", grammarOf(TEN + "K=;"), faultAt(30));
        due("the eleventh, where the text ends", grammarOf(TEN + "K"), faultAt(30));
        due("one of the ten again", grammarOf(TEN + "Z=;"), faultAt(30));
        due("blanks behind ten", grammarOf(TEN + "  "), 10);
    }

    private static void variableWithoutPart() {
        says(0, "one in an ALTERNATIVE that has no part (the first such one");
        due("alone", grammarOf("S=T;"), faultAt(2));
        due("the first name", grammarOf("S=A;"), faultAt(2));
        due("the last name", grammarOf("S=Z;"), faultAt(2));
        due("the first of two", grammarOf("S=aU|T;"), faultAt(3));
        due("behind one that has a part", grammarOf("S=TU;T=;"), faultAt(3));
        due("twice in the text", grammarOf("S=aT;R=T;"), faultAt(3));
        due("in the last part", grammarOf("S=;T=SU;"), faultAt(6));
        due("an eleventh name beside ten parts", grammarOf(TEN.replace("Z=", "Z=AK")), faultAt(30));
        due("one whose part comes later is none", grammarOf("S=T;T=;"), 2);
    }

    private static void withoutPartIfNoOtherFault() {
        says(0, "if there is no other fault");
        due("a sign that can't come behind it", grammarOf("S=T;;"), faultAt(4));
        due("it ends too early behind it", grammarOf("S=T"), faultAt(3));
        due("a part already behind it", grammarOf("S=T;S=;"), faultAt(4));
        due("an 11th variable behind it", grammarOf("A=K;" + TEN.substring(3) + "L=;"), faultAt(31));
        due("a 31st alternative behind it", grammarOf("S=T" + "|".repeat(30) + ";"), faultAt(33));
        due("a 7th letter behind it", grammarOf("S=T|aaaaaaa;"), faultAt(10));
    }

    private static void thirtyFirstAlternative() {
        says(0, "the 31st ALTERNATIVE's first sign");
        due("30", grammarOf(THIRTY + ";"), 30);
        due("a letter", grammarOf(THIRTY + "|ab;"), faultAt(32));
        due("a variable", grammarOf(THIRTY + "|SS;"), faultAt(32));
        due("behind blanks", grammarOf(THIRTY + "|  a;"), faultAt(34));
        due("in the next part", grammarOf(THIRTY + ";T=a;"), faultAt(34));
        due("30 of two parts", grammarOf("S=" + "|".repeat(14) + ";T=" + "|".repeat(14) + ";"), 30);
        due("31 of two parts", grammarOf("S=" + "|".repeat(14) + ";T=" + "|".repeat(15) + "a;"), faultAt(34));
        due("it ends ahead of that sign", grammarOf(THIRTY + "|"), faultAt(32));
    }

    private static void whatEndsTheThirtyFirst() {
        says(0, "(or what ends it)");
        due("; ends it", grammarOf(THIRTY + "|;"), faultAt(32));
        due("| ends it", grammarOf(THIRTY + "||;"), faultAt(32));
        due("; ends it behind blanks", grammarOf(THIRTY + "| ;"), faultAt(33));
        due("; ends it in the next part", grammarOf(THIRTY + ";T=;"), faultAt(34));
    }

    private static void seventhInARow() {
        says(0, "the 7th letter or VARIABLE of one");
        due("a letter", grammarOf("S=aaaaaaa;"), faultAt(8));
        due("a variable", grammarOf("S=SSSSSSS|;"), faultAt(8));
        due("a variable behind letters", grammarOf("S=abcdefS;"), faultAt(8));
        due("of the second one", grammarOf("S=aaaaaa|bbbbbbb;"), faultAt(15));
        due("behind blanks", grammarOf("S=aaaaaa a;"), faultAt(9));
        due("a variable without a part", grammarOf("S=aaaaaaT;"), faultAt(8));
        due("the eighth is not looked at", grammarOf("S=aaaaaaak;"), faultAt(8));
        due("| in its place", grammarOf("S=aaaaaa|;"), 2);
        due("; in its place", grammarOf("S=aaaaaa;"), 1);
    }

    private static void rulesAsTold() {
        says(0, "the RULES, numbered from 0 on as they are told");
        GrammarGuard x = withGrammar("S=T|b;T=c|;");
        int[][] rules = {{0, 1, 101}, {0, 1, 1}, {1, 1, 2}, {1, 0}};
        for (int r = 0; r < rules.length; r++) {
            for (int what = 0; what < rules[r].length; what++) {
                due("rule " + r + " " + what, x.rule(r, what), rules[r][what]);
            }
        }
    }

    private static void variablesByTheirParts() {
        says(0, "VARIABLES likewise, by their parts. Variable 0 is THE START.");
        GrammarGuard x = withGrammar("T=VU;U=a;V=b;");
        due("0", x.variable(0, 0), 'T');
        due("1", x.variable(1, 0), 'U');
        due("2", x.variable(2, 0), 'V');
        due("V in the first rule", x.rule(0, 2), 102);
        due("U in the first rule", x.rule(0, 3), 101);
        due("words of THE START", x.treesOf(2), 1);
        due("words of THE START", x.treesOf(1), 0);
    }

    private static void signsAreGone() {
        says(4, "The signs, which are gone then");
        GrammarGuard x = withGrammar("S=a;");
        due("told", x.count(2), 0);
        due("a fault", grammar(x, "S=a"), faultAt(3));
        due("told behind a fault", x.count(2), 0);
        due("none of them is in the next one", grammar(x, ";"), faultAt(0));
    }

    private static void howManyRules() {
        says(4, "become the grammar: how many rules");
        due("1", grammarOf("S=;"), 1);
        due("3 of two parts", grammarOf("S=a|b;T=;"), 3);
        due("30", grammarOf(THIRTY + ";"), 30);
    }

    private static void grammarStays() {
        says(4, "or - 2 less the place of its FAULT; the grammar stays then.");
        GrammarGuard x = withGrammar("S=aT;T=b|;");
        String[] faults = {"", "U=c", "U=c;;", "U=cV;", "U=c;U=d;", "U=ddddddd;"};
        int[] places = {0, 3, 4, 3, 4, 8};
        for (int i = 0; i < faults.length; i++) {
            due("fault of " + faults[i], grammar(x, faults[i]), faultAt(places[i]));
            due("variables", x.count(0), 2);
            due("rules", x.count(1), 3);
            due("name", x.variable(0, 0), 'S');
            due("shortest", x.variable(0, 4), 1);
            due("first symbol", x.rule(0, 2), 0);
            due("second symbol", x.rule(0, 3), 101);
            due("trees", x.treesOf(2), 1);
        }
        due("another one", grammar(x, "U=c;"), 1);
        due("its trees", x.treesOf(1), 1);
        due("no more of the one before", x.treesOf(2), 0);
    }
}

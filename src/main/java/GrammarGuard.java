import java.util.Arrays;

/**
 * Grammars held against regular sets. A grammar and two expressions are read as texts; the document's
 * promises 1 to 21 say what each call answers. README.md tells how the parts of this file go together.
 */
public final class GrammarGuard {
    public static final int BAD = -1, NONE = -2, GREAT = -3;

    private static final int FIRST_SIGN = 32, LAST_SIGN = 126, BLANK = 32;
    private static final int MOST_SIGNS = 300;
    private static final int LETTERS = 10, NAMES = 26;
    private static final int MOST_WORD = 40;
    private static final int MOST_VARIABLES = 10, MOST_RULES = 30, MOST_SYMBOLS = 6;
    private static final int MOST_STATES = 40, MOST_PLACES = 2000, MOST_BRACKETS = 15;
    private static final int EXPRESSIONS = 2;

    /** Symbols of rules: letters are 0 .. 9, variables this and their number. */
    private static final int VARIABLE = 100;

    private static final int NO_FAULT = -1;
    private static final int GREAT_EXPRESSION = -1000;

    /** Lengths and numbers above this are told, and compared, as this. */
    private static final long MOST = 4_000_000_000_000_000_000L;

    /** Stands for "no end of them" among numbers, and for "not found" among lengths. */
    private static final long ENDLESS = 9_000_000_000_000_000_000L;

    private final Signs signs = new Signs();
    private final int[] theWord = new int[MOST_WORD];
    private int wordLength;

    private final Grammar rules = new Grammar();
    private final Grammar draftRules = new Grammar();
    private final GrammarReader grammarReader = new GrammarReader();
    private final TreeCounter counter = new TreeCounter();

    private final Machine[] machines = {new Machine(), new Machine()};
    private final ExpressionReader expressionReader = new ExpressionReader();
    private final PairWalk pairWalk = new PairWalk();

    private final Product[] products = {new Product(), new Product()};
    private final Witness held = new Witness();

    public GrammarGuard() {
    }

    public int ask(int c) {
        if (c < FIRST_SIGN || c > LAST_SIGN) {
            return BAD;
        }
        return signs.tell(c);
    }

    public int word() {
        signs.take();
        int fault = faultOfWord();
        if (fault != NO_FAULT) {
            return toldFault(fault);
        }
        for (int i = 0; i < signs.length; i++) {
            theWord[i] = letterOf(signs.signAt(i));
        }
        return setWordLength(signs.length);
    }

    public int grammar() {
        signs.take();
        int fault = grammarReader.read(signs, draftRules);
        if (fault != NO_FAULT) {
            return toldFault(fault);
        }
        rules.takeFrom(draftRules);
        rules.learn();
        counter.forgetGrammar();
        products[0].fresh = false;
        products[1].fresh = false;
        return rules.rules;
    }

    public int expression(int which) {
        if (!isExpression(which)) {
            return BAD;
        }
        signs.take();
        int fault = expressionReader.faultIn(signs);
        if (fault != NO_FAULT) {
            return toldFault(fault);
        }
        if (!expressionReader.build(signs)) {
            return GREAT_EXPRESSION;
        }
        machines[which].takeFrom(expressionReader.result());
        products[which].fresh = false;
        return machines[which].states;
    }

    // ---- the grammar

    public int count(int what) {
        switch (what) {
            case 0: return rules.variables;
            case 1: return rules.rules;
            case 2: return signs.told;
            case 3: return wordLength;
            default: return BAD;
        }
    }

    public int rule(int r, int what) {
        if (r < 0 || r >= rules.rules || what < 0) {
            return BAD;
        }
        if (what == 0) {
            return rules.heads[r];
        }
        if (what == 1) {
            return rules.lengths[r];
        }
        int place = what - 2;
        return place < rules.lengths[r] ? rules.symbolAt(r, place) : BAD;
    }

    public long variable(int x, int what) {
        if (!isVariable(x)) {
            return BAD;
        }
        switch (what) {
            case 0: return rules.names[x];
            case 1: return bitOf(rules.fruitful, x);
            case 2: return bitOf(rules.used, x);
            case 3: return rules.shortest[x] == 0 ? 1 : 0;
            case 4: return rules.shortest[x] == ENDLESS ? NONE : rules.shortest[x];
            case 5: return rules.lowest[x] == 0 ? NONE : rules.lowest[x];
            case 6: return bitOf(rules.endless, x);
            default: return BAD;
        }
    }

    public long trees(int x) {
        if (!isVariable(x)) {
            return BAD;
        }
        return toldNumber(counter.ofWord(rules, theWord, wordLength, x));
    }

    public long treesOf(int letters) {
        if (!hasGrammar() || letters < 0 || letters > MOST_WORD) {
            return BAD;
        }
        return toldNumber(counter.ofLength(rules, letters));
    }

    // ---- expressions

    public int next(int which, int state, int letter) {
        if (!isExpression(which) || letter < 0 || letter >= LETTERS) {
            return BAD;
        }
        Machine machine = machines[which];
        return machine.isState(state) ? machine.after(state, letter) : BAD;
    }

    public int isLast(int which, int state) {
        if (!isExpression(which)) {
            return BAD;
        }
        Machine machine = machines[which];
        if (state == -1) {
            return machine.states;
        }
        if (!machine.isState(state)) {
            return BAD;
        }
        return machine.endsIn(state) ? 1 : 0;
    }

    public int has(int which) {
        if (!isExpression(which)) {
            return BAD;
        }
        Machine machine = machines[which];
        int state = 0;
        for (int i = 0; i < wordLength; i++) {
            state = machine.after(state, theWord[i]);
        }
        return machine.endsIn(state) ? 1 : 0;
    }

    public int apart(int what) {
        if (what < 0 || what > 3) {
            return BAD;
        }
        if (!pairWalk.find(machines[0], machines[1], what)) {
            return NONE;
        }
        int length = pairWalk.length();
        if (length > MOST_WORD) {
            return GREAT;
        }
        pairWalk.write(theWord, length);
        return setWordLength(length);
    }

    // ---- the grammar within an expression

    public int within(int which) {
        if (!hasGrammar() || !isExpression(which)) {
            return BAD;
        }
        held.atHand = false;
        Machine machine = machines[which];
        if ((startEnds(which) & ~machine.last) == 0) {
            return 1;
        }
        if (held.search.find(rules, machine)) {
            held.hold(rules, machine);
        }
        return 0;
    }

    public long witness(int what) {
        if (!held.atHand) {
            return NONE;
        }
        switch (what) {
            case 0: return held.rootLength();
            case 1: return held.rootHeight();
            case 2: return held.rootNodes();
            case 3: return held.rootEnd();
            default: return BAD;
        }
    }

    public int letter(long i) {
        return held.atHand ? held.letterAt(i) : NONE;
    }

    public long node(long k, int what) {
        return held.atHand ? held.tellNode(k, what) : NONE;
    }

    public int copy() {
        if (!held.atHand) {
            return NONE;
        }
        int length = (int) Math.min(MOST_WORD, held.rootLength());
        for (int i = 0; i < length; i++) {
            theWord[i] = held.letterAt(i);
        }
        return setWordLength(length);
    }

    public long product(int which, int what) {
        if (!hasGrammar() || !isExpression(which)) {
            return BAD;
        }
        Product product = products[which];
        product.refresh(rules, machines[which]);
        switch (what) {
            case 0: return product.countFertile();
            case 1: return product.countStanding();
            case 2: return product.countWays();
            default: return BAD;
        }
    }

    public int meets(int which, int what) {
        if (!hasGrammar() || !isExpression(which) || what < 0 || what > 1) {
            return BAD;
        }
        long last = machines[which].last;
        long wanted = what == 0 ? last : ~last;
        return (startEnds(which) & wanted) != 0 ? 1 : 0;
    }

    // ---- what the calls share

    private boolean hasGrammar() {
        return rules.rules > 0;
    }

    private boolean isVariable(int x) {
        return x >= 0 && x < rules.variables;
    }

    private static boolean isExpression(int which) {
        return which >= 0 && which < EXPRESSIONS;
    }

    /** The states in which words of THE START end, from state 0 on. */
    private long startEnds(int which) {
        products[which].refresh(rules, machines[which]);
        return products[which].fertile[0];
    }

    private int setWordLength(int length) {
        wordLength = length;
        counter.forgetWord();
        return length;
    }

    /** The place of the first sign that is no letter, or of the 41st letter. */
    private int faultOfWord() {
        for (int i = 0; i < signs.length; i++) {
            if (i == MOST_WORD || !isLetterSign(signs.signAt(i))) {
                return signs.placeAt(i);
            }
        }
        return NO_FAULT;
    }

    private static int toldFault(int place) {
        return -2 - place;
    }

    private static boolean isLetterSign(int sign) {
        return sign >= 'a' && sign < 'a' + LETTERS;
    }

    private static int letterOf(int sign) {
        return sign - 'a';
    }

    private static boolean isNameSign(int sign) {
        return sign >= 'A' && sign <= 'Z';
    }

    private static int bitOf(int set, int i) {
        return set >>> i & 1;
    }

    private static long toldNumber(long number) {
        return number == ENDLESS ? NONE : number;
    }

    private static long plus(long a, long b) {
        if (a == ENDLESS || b == ENDLESS) {
            return ENDLESS;
        }
        return Math.min(MOST, a + b);
    }

    private static long times(long a, long b) {
        if (a == 0 || b == 0) {
            return 0;
        }
        if (a == ENDLESS || b == ENDLESS) {
            return ENDLESS;
        }
        return a > MOST / b ? MOST : a * b;
    }

    /** Makes each set of the row hold what can be come to from its members by one or more steps. */
    private static void closeSets(int[] sets, int count) {
        for (int via = 0; via < count; via++) {
            for (int from = 0; from < count; from++) {
                if (bitOf(sets[from], via) == 1) {
                    sets[from] |= sets[via];
                }
            }
        }
    }

    private static long afterSet(Machine machine, long set, int letter) {
        long image = 0;
        for (long rest = set; rest != 0; rest &= rest - 1) {
            image |= 1L << machine.after(Long.numberOfTrailingZeros(rest), letter);
        }
        return image;
    }

    /** Triples are kept as sets of last states, in rows by variable and first state. */
    private static int rowOf(int variable, int state) {
        return variable * MOST_STATES + state;
    }

    /** ahead[d]: the states that can stand behind d symbols of a rule, when state from is before it. */
    private static void follow(Grammar rules, Machine machine, long[] triples, int r, int from, long[] ahead) {
        long set = 1L << from;
        ahead[0] = set;
        for (int d = 0; d < rules.lengths[r]; d++) {
            int symbol = rules.symbolAt(r, d);
            if (symbol < VARIABLE) {
                set = afterSet(machine, set, symbol);
            } else {
                long through = 0;
                for (long rest = set; rest != 0; rest &= rest - 1) {
                    through |= triples[rowOf(symbol - VARIABLE, Long.numberOfTrailingZeros(rest))];
                }
                set = through;
            }
            ahead[d + 1] = set;
        }
    }

    /** The signs told so far; taken, they are a text without blanks that still knows the places. */
    private static final class Signs {
        static final int END = -1;

        private final int[] all = new int[MOST_SIGNS];
        private final int[] text = new int[MOST_SIGNS];
        private final int[] places = new int[MOST_SIGNS];
        private int end;
        int told;
        int length;

        int tell(int sign) {
            if (told >= MOST_SIGNS) {
                return BAD;
            }
            all[told] = sign;
            told++;
            return told;
        }

        void take() {
            length = 0;
            for (int i = 0; i < told; i++) {
                if (all[i] != BLANK) {
                    text[length] = all[i];
                    places[length] = i;
                    length++;
                }
            }
            end = told;
            told = 0;
        }

        int signAt(int i) {
            return i < length ? text[i] : END;
        }

        int placeAt(int i) {
            return i < length ? places[i] : end;
        }
    }

    /** Rules as they were told, and what is known of their variables. */
    private static final class Grammar {
        int variables;
        int rules;
        final int[] names = new int[MOST_VARIABLES];
        final int[] heads = new int[MOST_RULES];
        final int[] lengths = new int[MOST_RULES];
        private final int[] symbols = new int[MOST_RULES * MOST_SYMBOLS];

        int fruitful;
        int used;
        int endless;
        final long[] shortest = new long[MOST_VARIABLES];
        final int[] lowest = new int[MOST_VARIABLES];
        private final int[] below = new int[MOST_VARIABLES];
        private final int[] growing = new int[MOST_VARIABLES];

        int symbolAt(int r, int d) {
            return symbols[r * MOST_SYMBOLS + d];
        }

        void clear() {
            variables = 0;
            rules = 0;
        }

        void addVariable(int name) {
            names[variables] = name;
            variables++;
        }

        void openRule() {
            heads[rules] = variables - 1;
            lengths[rules] = 0;
            rules++;
        }

        void addSymbol(int symbol) {
            int r = rules - 1;
            setSymbol(r, lengths[r], symbol);
            lengths[r]++;
        }

        void setSymbol(int r, int d, int symbol) {
            symbols[r * MOST_SYMBOLS + d] = symbol;
        }

        void takeFrom(Grammar other) {
            variables = other.variables;
            rules = other.rules;
            System.arraycopy(other.names, 0, names, 0, variables);
            System.arraycopy(other.heads, 0, heads, 0, rules);
            System.arraycopy(other.lengths, 0, lengths, 0, rules);
            System.arraycopy(other.symbols, 0, symbols, 0, rules * MOST_SYMBOLS);
        }

        void learn() {
            learnHeights();
            learnShortest();
            learnUsed();
            learnEndless();
        }

        private void learnHeights() {
            fruitful = 0;
            Arrays.fill(lowest, 0);
            for (int height = 1; height <= variables; height++) {
                int lower = fruitful;
                for (int r = 0; r < rules; r++) {
                    if (lowest[heads[r]] == 0 && isWithin(r, lower)) {
                        lowest[heads[r]] = height;
                        fruitful |= 1 << heads[r];
                    }
                }
            }
        }

        private boolean isWithin(int r, int allowed) {
            for (int d = 0; d < lengths[r]; d++) {
                int symbol = symbolAt(r, d);
                if (symbol >= VARIABLE && bitOf(allowed, symbol - VARIABLE) == 0) {
                    return false;
                }
            }
            return true;
        }

        /** A shortest tree has no variable above itself, so as many rounds as variables are enough. */
        private void learnShortest() {
            Arrays.fill(shortest, ENDLESS);
            for (int round = 0; round < variables; round++) {
                for (int r = 0; r < rules; r++) {
                    shortest[heads[r]] = Math.min(shortest[heads[r]], shortestOf(r));
                }
            }
        }

        private long shortestOf(int r) {
            long length = 0;
            for (int d = 0; d < lengths[r]; d++) {
                int symbol = symbolAt(r, d);
                length = plus(length, symbol < VARIABLE ? 1 : shortest[symbol - VARIABLE]);
            }
            return length;
        }

        private void learnUsed() {
            used = fruitful & 1;
            for (int round = 0; round < variables; round++) {
                for (int r = 0; r < rules; r++) {
                    if (bitOf(used, heads[r]) == 1 && isWithin(r, fruitful)) {
                        used |= variablesOf(r);
                    }
                }
            }
        }

        private int variablesOf(int r) {
            int set = 0;
            for (int d = 0; d < lengths[r]; d++) {
                int symbol = symbolAt(r, d);
                if (symbol >= VARIABLE) {
                    set |= 1 << symbol - VARIABLE;
                }
            }
            return set;
        }

        /** Words have no longest one just where a variable can stand below itself with letters beside it. */
        private void learnEndless() {
            int lettered = findLettered();
            Arrays.fill(below, 0);
            Arrays.fill(growing, 0);
            for (int r = 0; r < rules; r++) {
                if (isWithin(r, fruitful)) {
                    below[heads[r]] |= variablesOf(r);
                    growing[heads[r]] |= growingIn(r, lettered);
                }
            }
            closeSets(below, variables);
            int pumping = 0;
            for (int x = 0; x < variables; x++) {
                for (int y = 0; y < variables; y++) {
                    if (bitOf(growing[x], y) == 1 && (x == y || bitOf(below[y], x) == 1)) {
                        pumping |= 1 << x;
                    }
                }
            }
            endless = 0;
            for (int x = 0; x < variables; x++) {
                if (((below[x] | 1 << x) & pumping) != 0) {
                    endless |= 1 << x;
                }
            }
        }

        /** The variables that have a word of one letter or more. */
        private int findLettered() {
            int lettered = 0;
            for (int round = 0; round < variables; round++) {
                for (int r = 0; r < rules; r++) {
                    if (isWithin(r, fruitful) && letteredSymbols(r, lettered) > 0) {
                        lettered |= 1 << heads[r];
                    }
                }
            }
            return lettered;
        }

        private int letteredSymbols(int r, int lettered) {
            int found = 0;
            for (int d = 0; d < lengths[r]; d++) {
                if (isLettered(symbolAt(r, d), lettered)) {
                    found++;
                }
            }
            return found;
        }

        private static boolean isLettered(int symbol, int lettered) {
            return symbol < VARIABLE || bitOf(lettered, symbol - VARIABLE) == 1;
        }

        /** The variables of a rule beside which another symbol of it can give a letter. */
        private int growingIn(int r, int lettered) {
            int all = letteredSymbols(r, lettered);
            int set = 0;
            for (int d = 0; d < lengths[r]; d++) {
                int symbol = symbolAt(r, d);
                int others = isLettered(symbol, lettered) ? all - 1 : all;
                if (symbol >= VARIABLE && others > 0) {
                    set |= 1 << symbol - VARIABLE;
                }
            }
            return set;
        }
    }

    /** Reads a grammar sign by sign, and finds the place of its fault. */
    private static final class GrammarReader {
        private static final int HEAD = 0, EQUALS = 1, ROW = 2;
        private static final int MISSING = -1;

        private final int[] numbers = new int[NAMES];
        private final int[] firstUses = new int[NAMES];
        private Grammar into = new Grammar();
        private int awaited;
        private boolean opened;

        int read(Signs signs, Grammar target) {
            into = target;
            into.clear();
            awaited = HEAD;
            opened = false;
            Arrays.fill(numbers, MISSING);
            Arrays.fill(firstUses, MISSING);
            for (int i = 0; i < signs.length; i++) {
                if (!takes(signs.signAt(i), signs.placeAt(i))) {
                    return signs.placeAt(i);
                }
            }
            if (awaited != HEAD || into.variables == 0) {
                return signs.placeAt(signs.length);
            }
            int fault = firstWithoutPart();
            if (fault == NO_FAULT) {
                numberVariables();
            }
            return fault;
        }

        private boolean takes(int sign, int place) {
            switch (awaited) {
                case HEAD: return takesHead(sign);
                case EQUALS:
                    awaited = ROW;
                    opened = false;
                    return sign == '=';
                default: return takesInRow(sign, place);
            }
        }

        private boolean takesHead(int sign) {
            if (!isNameSign(sign) || numbers[sign - 'A'] != MISSING || into.variables >= MOST_VARIABLES) {
                return false;
            }
            numbers[sign - 'A'] = into.variables;
            into.addVariable(sign);
            awaited = EQUALS;
            return true;
        }

        /** A rule is opened by its first sign or by what ends it, for there the 31st one is refused. */
        private boolean takesInRow(int sign, int place) {
            if (!opened) {
                if (into.rules >= MOST_RULES) {
                    return false;
                }
                into.openRule();
                opened = true;
            }
            if (sign == '|') {
                opened = false;
                return true;
            }
            if (sign == ';') {
                awaited = HEAD;
                return true;
            }
            return takesSymbol(sign, place);
        }

        private boolean takesSymbol(int sign, int place) {
            boolean isName = isNameSign(sign);
            if (!isName && !isLetterSign(sign) || into.lengths[into.rules - 1] >= MOST_SYMBOLS) {
                return false;
            }
            if (isName && firstUses[sign - 'A'] == MISSING) {
                firstUses[sign - 'A'] = place;
            }
            into.addSymbol(isName ? VARIABLE + sign - 'A' : letterOf(sign));
            return true;
        }

        private int firstWithoutPart() {
            int first = NO_FAULT;
            for (int name = 0; name < NAMES; name++) {
                int use = firstUses[name];
                if (use != MISSING && numbers[name] == MISSING && (first == NO_FAULT || use < first)) {
                    first = use;
                }
            }
            return first;
        }

        /** Variables may be used before their parts, so names become numbers only at the end. */
        private void numberVariables() {
            for (int r = 0; r < into.rules; r++) {
                for (int d = 0; d < into.lengths[r]; d++) {
                    int symbol = into.symbolAt(r, d);
                    if (symbol >= VARIABLE) {
                        into.setSymbol(r, d, VARIABLE + numbers[symbol - VARIABLE]);
                    }
                }
            }
        }
    }

    /**
     * Counts trees over spans of a word. For a span, trees of one variable over all of it are told apart from
     * the rest: they alone can go round in a circle, and then there is no end of them.
     */
    private static final class TreeCounter {
        private static final int ENDS = MOST_WORD + 1, DEPTHS = MOST_SYMBOLS + 1;

        private Grammar rules = new Grammar();
        private int[] letters = new int[MOST_WORD];
        private int length;
        private boolean anyLetters;

        private final long[] empty = new long[MOST_VARIABLES];
        private final long[] lead = new long[MOST_RULES * DEPTHS];
        private final long[] unit = new long[MOST_VARIABLES * MOST_VARIABLES];
        private final int[] below = new int[MOST_VARIABLES];
        private int circling;

        private final long[] spans = new long[MOST_VARIABLES * ENDS * ENDS];
        private final long[] prefixes = new long[MOST_RULES * DEPTHS * ENDS];
        private final long[] middles = new long[MOST_RULES * DEPTHS];
        private final long[] base = new long[MOST_VARIABLES];
        private final long[] current = new long[MOST_VARIABLES];

        private final long[] byVariable = new long[MOST_VARIABLES];
        private final long[] byLength = new long[ENDS];
        private boolean wordCounted;
        private boolean lengthsCounted;

        void forgetWord() {
            wordCounted = false;
        }

        void forgetGrammar() {
            wordCounted = false;
            lengthsCounted = false;
        }

        long ofWord(Grammar grammar, int[] word, int letterCount, int x) {
            if (!wordCounted) {
                prepare(grammar, word, letterCount, false);
                for (int first = length - 1; first >= 0; first--) {
                    countFrom(first);
                }
                for (int y = 0; y < rules.variables; y++) {
                    byVariable[y] = length == 0 ? empty[y] : spans[spanOf(y, 0, length)];
                }
                wordCounted = true;
            }
            return byVariable[x];
        }

        long ofLength(Grammar grammar, int wanted) {
            if (!lengthsCounted) {
                prepare(grammar, letters, MOST_WORD, true);
                countFrom(0);
                byLength[0] = empty[0];
                for (int n = 1; n <= MOST_WORD; n++) {
                    byLength[n] = spans[spanOf(0, 0, n)];
                }
                lengthsCounted = true;
            }
            return byLength[wanted];
        }

        private void prepare(Grammar grammar, int[] word, int letterCount, boolean any) {
            rules = grammar;
            letters = word;
            length = letterCount;
            anyLetters = any;
            countEmpty();
            fillLeads();
            fillUnits();
        }

        /** With any letters, what a span has depends on its length alone. */
        private int spanOf(int x, int first, int end) {
            int shift = anyLetters ? first : 0;
            return (x * ENDS + first - shift) * ENDS + end - shift;
        }

        private long emptyOf(int symbol) {
            return symbol < VARIABLE ? 0 : empty[symbol - VARIABLE];
        }

        private void countEmpty() {
            int blank = 0;
            for (int x = 0; x < rules.variables; x++) {
                blank |= rules.shortest[x] == 0 ? 1 << x : 0;
            }
            Arrays.fill(below, 0);
            for (int r = 0; r < rules.rules; r++) {
                if (isBlankRule(r, blank)) {
                    below[rules.heads[r]] |= rules.variablesOf(r);
                }
            }
            int circles = closeAndFindCircles();
            for (int x = 0; x < rules.variables; x++) {
                empty[x] = ((below[x] | 1 << x) & circles) != 0 ? ENDLESS : 0;
            }
            for (int round = 0; round < rules.variables; round++) {
                countEmptyOnce(blank, circles);
            }
        }

        private void countEmptyOnce(int blank, int circles) {
            Arrays.fill(current, 0);
            for (int r = 0; r < rules.rules; r++) {
                if (isBlankRule(r, blank)) {
                    current[rules.heads[r]] = plus(current[rules.heads[r]], emptyProduct(r, 0, rules.lengths[r]));
                }
            }
            for (int x = 0; x < rules.variables; x++) {
                if (((below[x] | 1 << x) & circles) == 0) {
                    empty[x] = current[x];
                }
            }
        }

        private boolean isBlankRule(int r, int blank) {
            for (int d = 0; d < rules.lengths[r]; d++) {
                if (rules.symbolAt(r, d) < VARIABLE) {
                    return false;
                }
            }
            return rules.isWithin(r, blank);
        }

        private long emptyProduct(int r, int from, int to) {
            long number = 1;
            for (int d = from; d < to; d++) {
                number = times(number, emptyOf(rules.symbolAt(r, d)));
            }
            return number;
        }

        private int closeAndFindCircles() {
            closeSets(below, rules.variables);
            int circles = 0;
            for (int x = 0; x < rules.variables; x++) {
                circles |= below[x] & 1 << x;
            }
            return circles;
        }

        private void fillLeads() {
            for (int r = 0; r < rules.rules; r++) {
                for (int d = 0; d <= rules.lengths[r]; d++) {
                    lead[r * DEPTHS + d] = emptyProduct(r, 0, d);
                }
            }
        }

        /** unit: in how many ways a variable has another over its whole span, all beside that being empty. */
        private void fillUnits() {
            Arrays.fill(unit, 0);
            Arrays.fill(below, 0);
            for (int r = 0; r < rules.rules; r++) {
                for (int d = 0; d < rules.lengths[r]; d++) {
                    int symbol = rules.symbolAt(r, d);
                    long ways = symbol < VARIABLE ? 0
                            : times(lead[r * DEPTHS + d], emptyProduct(r, d + 1, rules.lengths[r]));
                    if (ways != 0) {
                        int at = rules.heads[r] * MOST_VARIABLES + symbol - VARIABLE;
                        unit[at] = plus(unit[at], ways);
                        below[rules.heads[r]] |= 1 << symbol - VARIABLE;
                    }
                }
            }
            circling = closeAndFindCircles();
        }

        /** Counts the spans that begin at a place, shorter ones first. */
        private void countFrom(int first) {
            for (int r = 0; r < rules.rules; r++) {
                for (int d = 0; d <= rules.lengths[r]; d++) {
                    prefixes[prefixOf(r, d, first)] = lead[r * DEPTHS + d];
                }
            }
            for (int end = first + 1; end <= length; end++) {
                fillMiddles(first, end);
                fillBase();
                solve();
                for (int x = 0; x < rules.variables; x++) {
                    spans[spanOf(x, first, end)] = current[x];
                }
                fillPrefixes(end);
            }
        }

        private static int prefixOf(int r, int d, int end) {
            return (r * DEPTHS + d) * ENDS + end;
        }

        /** middles: first d symbols over the span, the last of them over neither nothing nor all of it. */
        private void fillMiddles(int first, int end) {
            for (int r = 0; r < rules.rules; r++) {
                for (int d = 1; d <= rules.lengths[r]; d++) {
                    int symbol = rules.symbolAt(r, d - 1);
                    long sum = 0;
                    if (symbol >= VARIABLE) {
                        sum = sumOfSplits(prefixOf(r, d - 1, 0), symbol - VARIABLE, first, end);
                    } else if (anyLetters || letters[end - 1] == symbol) {
                        sum = prefixes[prefixOf(r, d - 1, end - 1)];
                    }
                    middles[r * DEPTHS + d] = sum;
                }
            }
        }

        private long sumOfSplits(int prefixRow, int x, int first, int end) {
            long sum = 0;
            for (int split = first + 1; split < end; split++) {
                long before = prefixes[prefixRow + split];
                if (before != 0) {
                    sum = plus(sum, times(before, spans[spanOf(x, split, end)]));
                }
            }
            return sum;
        }

        /** base: trees over the span in whose topmost rule no variable has all of it. */
        private void fillBase() {
            Arrays.fill(base, 0);
            for (int r = 0; r < rules.rules; r++) {
                long ways = 0;
                for (int d = 1; d <= rules.lengths[r]; d++) {
                    ways = plus(middles[r * DEPTHS + d], times(ways, emptyOf(rules.symbolAt(r, d - 1))));
                }
                base[rules.heads[r]] = plus(base[rules.heads[r]], ways);
            }
        }

        private void solve() {
            int begun = 0;
            for (int x = 0; x < rules.variables; x++) {
                begun |= base[x] != 0 ? 1 << x : 0;
            }
            int circles = 0;
            for (int x = 0; x < rules.variables; x++) {
                if (bitOf(circling, x) == 1 && ((below[x] | 1 << x) & begun) != 0) {
                    circles |= 1 << x;
                }
            }
            for (int x = 0; x < rules.variables; x++) {
                current[x] = ((below[x] | 1 << x) & circles) != 0 ? ENDLESS : base[x];
            }
            boolean changed = begun != 0;
            for (int round = 0; changed && round < rules.variables; round++) {
                changed = solveOnce(circles);
            }
        }

        private boolean solveOnce(int circles) {
            boolean changed = false;
            for (int x = 0; x < rules.variables; x++) {
                if (below[x] != 0 && ((below[x] | 1 << x) & circles) == 0) {
                    long sum = base[x];
                    for (int y = 0; y < rules.variables; y++) {
                        sum = plus(sum, times(unit[x * MOST_VARIABLES + y], current[y]));
                    }
                    changed |= sum != current[x];
                    current[x] = sum;
                }
            }
            return changed;
        }

        private void fillPrefixes(int end) {
            for (int r = 0; r < rules.rules; r++) {
                prefixes[prefixOf(r, 0, end)] = 0;
                for (int d = 1; d <= rules.lengths[r]; d++) {
                    int symbol = rules.symbolAt(r, d - 1);
                    long ways = middles[r * DEPTHS + d];
                    if (symbol >= VARIABLE) {
                        ways = plus(ways, times(lead[r * DEPTHS + d - 1], current[symbol - VARIABLE]));
                        ways = plus(ways, times(prefixes[prefixOf(r, d - 1, end)], emptyOf(symbol)));
                    }
                    prefixes[prefixOf(r, d, end)] = ways;
                }
            }
        }
    }

    /** A machine that takes each letter in each state; as made, it has one state and no word. */
    private static final class Machine {
        int states = 1;
        long last;
        private final int[] steps = new int[MOST_STATES * LETTERS];

        boolean isState(int state) {
            return state >= 0 && state < states;
        }

        int after(int state, int letter) {
            return steps[state * LETTERS + letter];
        }

        boolean endsIn(int state) {
            return (last >>> state & 1) != 0;
        }

        void setStep(int state, int letter, int to) {
            steps[state * LETTERS + letter] = to;
        }

        void takeFrom(Machine other) {
            states = other.states;
            last = other.last;
            System.arraycopy(other.steps, 0, steps, 0, states * LETTERS);
        }

        void becomeNoWord() {
            states = 1;
            last = 0;
            sendAll(0, 0);
        }

        void becomeEmptyWord() {
            states = 2;
            last = 1;
            sendAll(0, 1);
            sendAll(1, 1);
        }

        void becomeAnyLetter() {
            states = 3;
            last = 1L << 1;
            sendAll(0, 1);
            sendAll(1, 2);
            sendAll(2, 2);
        }

        /** States are numbered as letters come to them, so only a comes to the last state first. */
        void becomeLetter(int letter) {
            int good = letter == 0 ? 1 : 2;
            int dead = 3 - good;
            states = 3;
            last = 1L << good;
            sendAll(0, dead);
            sendAll(1, dead);
            sendAll(2, dead);
            setStep(0, letter, good);
        }

        void turnRound() {
            last = ~last & (1L << states) - 1;
        }

        private void sendAll(int state, int to) {
            for (int letter = 0; letter < LETTERS; letter++) {
                setStep(state, letter, to);
            }
        }
    }

    /** Makes the least machine of one step of an expression, from the places that it comes to. */
    private static final class MachineMaker {
        static final int EITHER = 0, BOTH = 1, BEHIND = 2, OFTEN = 3, ANY_TIMES = 4;

        private static final int SLOTS = 4096;
        private static final int PAIR_ROW = MOST_STATES + 1;

        private int kind;
        private Machine left = new Machine();
        private Machine right = left;
        private int places;
        private boolean great;

        private final int[] states = new int[MOST_PLACES];
        private final long[] sets = new long[MOST_PLACES];
        private final int[] steps = new int[MOST_PLACES * LETTERS];
        private final int[] slots = new int[SLOTS];
        private final int[] slotOf = new int[MOST_PLACES];

        private final boolean[] good = new boolean[MOST_PLACES];
        private final int[] group = new int[MOST_PLACES];
        private final int[] finer = new int[MOST_PLACES];
        private final int[] pairs = new int[PAIR_ROW * PAIR_ROW];
        private int groups;
        private final int[] numbers = new int[MOST_STATES];
        private final int[] samples = new int[MOST_STATES];

        /** False: the step is GREAT. Of one machine, the right one is not looked at. */
        boolean make(int how, Machine first, Machine second, Machine into) {
            kind = how;
            left = first;
            right = second;
            great = false;
            gather();
            if (!great) {
                divide();
            }
            if (!great) {
                writeTo(into);
            }
            for (int place = 0; place < places; place++) {
                slots[slotOf[place]] = 0;
            }
            return !great;
        }

        /** Of ANY_TIMES, state 1 is THE BEGINNING and state 0 any other place. */
        private void gather() {
            places = 0;
            switch (kind) {
                case BEHIND: placeOf(0, left.endsIn(0) ? 1 : 0); break;
                case OFTEN: placeOf(0, 1); break;
                case ANY_TIMES: placeOf(1, 0); break;
                default: placeOf(0, 0); break;
            }
            for (int place = 0; place < places && place < MOST_PLACES && !great; place++) {
                for (int letter = 0; letter < LETTERS && !great; letter++) {
                    steps[place * LETTERS + letter] = goOn(states[place], sets[place], letter);
                }
            }
        }

        private int goOn(int state, long set, int letter) {
            if (kind == EITHER || kind == BOTH) {
                return placeOf(left.after(state, letter), right.after((int) set, letter));
            }
            if (kind == BEHIND) {
                int to = left.after(state, letter);
                long begun = left.endsIn(to) ? 1 : 0;
                return placeOf(to, afterSet(right, set, letter) | begun);
            }
            long reached = afterSet(left, state == 1 ? 1 : set, letter);
            long again = (reached & left.last) != 0 ? 1 : 0;
            return placeOf(0, reached | again);
        }

        private boolean isGood(int place) {
            int state = states[place];
            long set = sets[place];
            switch (kind) {
                case EITHER: return left.endsIn(state) || right.endsIn((int) set);
                case BOTH: return left.endsIn(state) && right.endsIn((int) set);
                case BEHIND: return (set & right.last) != 0;
                default: return state == 1 || (set & left.last) != 0;
            }
        }

        private int placeOf(int state, long set) {
            long mixed = (set * MOST_STATES + state) * 0x9E3779B97F4A7C15L;
            int slot = (int) (mixed >>> 52);
            for (int tries = 0; tries < SLOTS; tries++) {
                int place = slots[slot] - 1;
                if (place < 0) {
                    return addPlace(state, set, slot);
                }
                if (states[place] == state && sets[place] == set) {
                    return place;
                }
                slot = slot + 1 & SLOTS - 1;
            }
            return 0;
        }

        private int addPlace(int state, long set, int slot) {
            if (places >= MOST_PLACES) {
                great = true;
                return 0;
            }
            states[places] = state;
            sets[places] = set;
            slotOf[places] = slot;
            places++;
            slots[slot] = places;
            return places - 1;
        }

        /** Divides places into groups until no letter tells two of a group apart. */
        private void divide() {
            groups = 1;
            for (int place = 0; place < places; place++) {
                good[place] = isGood(place);
                group[place] = good[place] == good[0] ? 0 : 1;
                groups = Math.max(groups, group[place] + 1);
            }
            int still = 0;
            for (int round = 0; still < LETTERS && !great && round < LETTERS * PAIR_ROW; round++) {
                int before = groups;
                divideBy(round % LETTERS);
                still = groups == before ? still + 1 : 0;
            }
        }

        private void divideBy(int letter) {
            Arrays.fill(pairs, 0, groups * PAIR_ROW, 0);
            int found = 0;
            for (int place = 0; place < places; place++) {
                int pair = group[place] * PAIR_ROW + group[steps[place * LETTERS + letter]];
                if (pairs[pair] == 0) {
                    if (found >= MOST_STATES) {
                        great = true;
                        return;
                    }
                    found++;
                    pairs[pair] = found;
                }
                finer[place] = pairs[pair] - 1;
            }
            groups = found;
            System.arraycopy(finer, 0, group, 0, places);
        }

        /** The machine written to may be one of those made from, so these are not looked at any more. */
        private void writeTo(Machine into) {
            Arrays.fill(numbers, 0, groups, -1);
            numbers[group[0]] = 0;
            samples[0] = 0;
            int numbered = 1;
            into.last = 0;
            for (int state = 0; state < numbered && state < MOST_STATES; state++) {
                if (good[samples[state]]) {
                    into.last |= 1L << state;
                }
                for (int letter = 0; letter < LETTERS; letter++) {
                    int place = steps[samples[state] * LETTERS + letter];
                    if (numbers[group[place]] < 0) {
                        numbers[group[place]] = numbered;
                        samples[numbered] = place;
                        numbered++;
                    }
                    into.setStep(state, letter, numbers[group[place]]);
                }
            }
            into.states = numbered;
        }
    }

    /** Finds the fault of an expression's text; of a text without one, makes the machine. */
    private static final class ExpressionReader {
        private static final int LEVELS = MOST_BRACKETS + 1;

        private int depth;
        private boolean behindAtom;
        private boolean behindNot;

        private final MachineMaker maker = new MachineMaker();
        private final Machine emptyWord = new Machine();
        private final Machine item = new Machine();
        private final Machine[] wholes = new Machine[LEVELS];
        private final Machine[] sums = new Machine[LEVELS];
        private final Machine[] rows = new Machine[LEVELS];
        private final boolean[] wholeBegun = new boolean[LEVELS];
        private final boolean[] sumBegun = new boolean[LEVELS];
        private final boolean[] rowBegun = new boolean[LEVELS];
        private final boolean[] turned = new boolean[LEVELS];
        private boolean itemOpen;

        ExpressionReader() {
            emptyWord.becomeEmptyWord();
            for (int level = 0; level < LEVELS; level++) {
                wholes[level] = new Machine();
                sums[level] = new Machine();
                rows[level] = new Machine();
            }
        }

        int faultIn(Signs signs) {
            depth = 0;
            behindAtom = false;
            behindNot = false;
            for (int i = 0; i < signs.length; i++) {
                if (!mayCome(signs.signAt(i))) {
                    return signs.placeAt(i);
                }
            }
            return depth > 0 || behindNot ? signs.placeAt(signs.length) : NO_FAULT;
        }

        private boolean mayCome(int sign) {
            boolean allowed;
            switch (sign) {
                case '*': case '+': case '?':
                    return behindAtom;
                case '(':
                    allowed = depth < MOST_BRACKETS;
                    depth++;
                    break;
                case ')':
                    allowed = depth > 0 && !behindNot;
                    depth--;
                    break;
                case '|': case '&':
                    allowed = !behindNot;
                    break;
                default:
                    allowed = sign == '!' || isPlainAtom(sign);
                    break;
            }
            behindAtom = sign == ')' || isPlainAtom(sign);
            behindNot = sign == '!';
            return allowed;
        }

        private static boolean isPlainAtom(int sign) {
            return sign == '.' || sign == '0' || isLetterSign(sign);
        }

        /** False: the expression is GREAT. The text has no fault. */
        boolean build(Signs signs) {
            depth = 0;
            open();
            boolean small = true;
            for (int i = 0; small && i < signs.length; i++) {
                int sign = signs.signAt(i);
                switch (sign) {
                    case '*': small = maker.make(MachineMaker.ANY_TIMES, item, item, item); break;
                    case '+': small = maker.make(MachineMaker.OFTEN, item, item, item); break;
                    case '?': small = maker.make(MachineMaker.EITHER, item, emptyWord, item); break;
                    case '|': small = endItem() && endRow(); break;
                    case '&': small = endItem() && endRow() && endSum(); break;
                    case ')': small = endItem() && endRow() && endSum() && close(); break;
                    default: small = endItem() && begin(sign); break;
                }
            }
            return small && endItem() && endRow() && endSum();
        }

        Machine result() {
            return wholes[0];
        }

        private void open() {
            wholeBegun[depth] = false;
            sumBegun[depth] = false;
            rowBegun[depth] = false;
            turned[depth] = false;
            itemOpen = false;
        }

        private boolean begin(int sign) {
            if (sign == '!') {
                turned[depth] = !turned[depth];
                return true;
            }
            if (sign == '(') {
                depth = Math.min(depth + 1, MOST_BRACKETS);
                open();
                return true;
            }
            if (sign == '.') {
                item.becomeAnyLetter();
            } else if (sign == '0') {
                item.becomeNoWord();
            } else {
                item.becomeLetter(letterOf(sign));
            }
            itemOpen = true;
            return true;
        }

        private boolean close() {
            item.takeFrom(wholes[depth]);
            depth = Math.max(depth - 1, 0);
            itemOpen = true;
            return true;
        }

        private boolean endItem() {
            if (!itemOpen) {
                return true;
            }
            itemOpen = false;
            if (turned[depth]) {
                item.turnRound();
                turned[depth] = false;
            }
            if (rowBegun[depth]) {
                return maker.make(MachineMaker.BEHIND, rows[depth], item, rows[depth]);
            }
            rowBegun[depth] = true;
            rows[depth].takeFrom(item);
            return true;
        }

        private boolean endRow() {
            Machine row = rowBegun[depth] ? rows[depth] : emptyWord;
            rowBegun[depth] = false;
            if (sumBegun[depth]) {
                return maker.make(MachineMaker.EITHER, sums[depth], row, sums[depth]);
            }
            sumBegun[depth] = true;
            sums[depth].takeFrom(row);
            return true;
        }

        private boolean endSum() {
            sumBegun[depth] = false;
            if (wholeBegun[depth]) {
                return maker.make(MachineMaker.BOTH, wholes[depth], sums[depth], wholes[depth]);
            }
            wholeBegun[depth] = true;
            wholes[depth].takeFrom(sums[depth]);
            return true;
        }
    }

    /** Walks through two machines at once, shorter words first, lesser letters first. */
    private static final class PairWalk {
        private static final int PAIRS = MOST_STATES * MOST_STATES;

        private final int[] queue = new int[PAIRS];
        private final int[] origin = new int[PAIRS];
        private final int[] entry = new int[PAIRS];
        private final boolean[] seen = new boolean[PAIRS];
        private Machine first = new Machine();
        private Machine second = first;
        private int what;
        private int target;

        /** Whether some word is of the wanted kind; then the first such one is at hand. */
        boolean find(Machine one, Machine other, int wanted) {
            first = one;
            second = other;
            what = wanted;
            for (int pair = 0; pair < PAIRS; pair++) {
                seen[pair] = false;
            }
            seen[0] = true;
            origin[0] = -1;
            queue[0] = 0;
            int queued = 1;
            for (int i = 0; i < queued && i < PAIRS; i++) {
                int pair = queue[i];
                if (isWanted(pair)) {
                    target = pair;
                    return true;
                }
                queued = addNext(pair, queued);
            }
            return false;
        }

        private int addNext(int pair, int queued) {
            int count = queued;
            for (int letter = 0; letter < LETTERS; letter++) {
                int to = first.after(pair / MOST_STATES, letter) * MOST_STATES
                        + second.after(pair % MOST_STATES, letter);
                if (!seen[to]) {
                    seen[to] = true;
                    origin[to] = pair;
                    entry[to] = letter;
                    queue[count] = to;
                    count++;
                }
            }
            return count;
        }

        private boolean isWanted(int pair) {
            boolean inFirst = first.endsIn(pair / MOST_STATES);
            boolean inSecond = second.endsIn(pair % MOST_STATES);
            switch (what) {
                case 0: return inFirst && !inSecond;
                case 1: return !inFirst && inSecond;
                case 2: return inFirst && inSecond;
                default: return !inFirst && !inSecond;
            }
        }

        int length() {
            int length = 0;
            int pair = target;
            for (int i = 0; i < PAIRS && origin[pair] >= 0; i++) {
                pair = origin[pair];
                length++;
            }
            return length;
        }

        void write(int[] letters, int length) {
            int pair = target;
            for (int i = length - 1; i >= 0 && origin[pair] >= 0; i--) {
                letters[i] = entry[pair];
                pair = origin[pair];
            }
        }
    }

    /** The fertile triples of a grammar and a machine. */
    private static final class Product {
        private static final int ROWS = MOST_VARIABLES * MOST_STATES;

        boolean fresh;
        final long[] fertile = new long[ROWS];
        private Grammar rules = new Grammar();
        private Machine machine = new Machine();
        private final long[] ahead = new long[MOST_SYMBOLS + 1];

        private final long[] standing = new long[ROWS];
        private final int[] queue = new int[ROWS];
        private final boolean[] queued = new boolean[ROWS];
        private int queueStart;
        private int queueCount;

        private final long[] ways = new long[MOST_STATES];
        private final long[] waysOn = new long[MOST_STATES];

        void refresh(Grammar grammar, Machine automaton) {
            if (fresh) {
                return;
            }
            rules = grammar;
            machine = automaton;
            Arrays.fill(fertile, 0);
            boolean changed = true;
            for (int round = 0; changed && round <= ROWS * MOST_STATES; round++) {
                changed = false;
                for (int r = 0; r < rules.rules; r++) {
                    changed |= growBy(r);
                }
            }
            fresh = true;
        }

        private boolean growBy(int r) {
            boolean changed = false;
            for (int state = 0; state < machine.states; state++) {
                int row = rowOf(rules.heads[r], state);
                follow(rules, machine, fertile, r, state, ahead);
                long all = fertile[row] | ahead[rules.lengths[r]];
                changed |= all != fertile[row];
                fertile[row] = all;
            }
            return changed;
        }

        long countFertile() {
            return countBits(fertile);
        }

        private long countBits(long[] triples) {
            long count = 0;
            for (int x = 0; x < rules.variables; x++) {
                for (int state = 0; state < machine.states; state++) {
                    count += Long.bitCount(triples[rowOf(x, state)]);
                }
            }
            return count;
        }

        /** Rows of triples are looked at anew whenever they have grown. */
        long countStanding() {
            Arrays.fill(standing, 0);
            queueStart = 0;
            queueCount = 0;
            stand(0, fertile[0]);
            for (int turn = 0; queueCount > 0 && turn <= ROWS * MOST_STATES; turn++) {
                int row = queue[queueStart];
                queueStart = (queueStart + 1) % ROWS;
                queueCount--;
                queued[row] = false;
                for (int r = 0; r < rules.rules; r++) {
                    if (rules.heads[r] == row / MOST_STATES) {
                        standBelow(r, row % MOST_STATES, standing[row]);
                    }
                }
            }
            return countBits(standing);
        }

        private void stand(int row, long ends) {
            if ((ends & ~standing[row]) == 0) {
                return;
            }
            standing[row] |= ends;
            if (!queued[row] && queueCount < ROWS) {
                queued[row] = true;
                queue[(queueStart + queueCount) % ROWS] = row;
                queueCount++;
            }
        }

        private void standBelow(int r, int from, long ends) {
            follow(rules, machine, fertile, r, from, ahead);
            long behind = ahead[rules.lengths[r]] & ends;
            for (int d = rules.lengths[r] - 1; d >= 0; d--) {
                int symbol = rules.symbolAt(r, d);
                long before = 0;
                for (long rest = ahead[d]; rest != 0; rest &= rest - 1) {
                    int state = Long.numberOfTrailingZeros(rest);
                    if (passes(symbol, state, behind)) {
                        before |= 1L << state;
                    }
                }
                behind = before;
            }
        }

        /** Whether a symbol leads from a state into a set; its triples that do stand in a tree then. */
        private boolean passes(int symbol, int state, long into) {
            if (symbol < VARIABLE) {
                return (into >>> machine.after(state, symbol) & 1) != 0;
            }
            int row = rowOf(symbol - VARIABLE, state);
            long ends = fertile[row] & into;
            stand(row, ends);
            return ends != 0;
        }

        long countWays() {
            long count = 0;
            for (int r = 0; r < rules.rules; r++) {
                for (int from = 0; from < machine.states; from++) {
                    count = plus(count, waysFrom(r, from));
                }
            }
            return count;
        }

        private long waysFrom(int r, int from) {
            Arrays.fill(ways, 0);
            ways[from] = 1;
            for (int d = 0; d < rules.lengths[r]; d++) {
                Arrays.fill(waysOn, 0);
                for (int state = 0; state < machine.states; state++) {
                    if (ways[state] != 0) {
                        addWays(rules.symbolAt(r, d), state);
                    }
                }
                System.arraycopy(waysOn, 0, ways, 0, machine.states);
            }
            long count = 0;
            for (int state = 0; state < machine.states; state++) {
                count = plus(count, ways[state]);
            }
            return count;
        }

        private void addWays(int symbol, int state) {
            long ends = symbol < VARIABLE ? 1L << machine.after(state, symbol)
                    : fertile[rowOf(symbol - VARIABLE, state)];
            for (long rest = ends; rest != 0; rest &= rest - 1) {
                int to = Long.numberOfTrailingZeros(rest);
                waysOn[to] = plus(waysOn[to], ways[state]);
            }
        }
    }

    /**
     * Finds, for triples, the length and the height of their trees, lesser ones first, until the root of the
     * witness is found. Triples whose length is below MOST are settled in the order of length and height. If
     * no root is among them, the others follow in the order of height: all of these have the length MOST.
     */
    private static final class Search {
        private static final int TRIPLES = MOST_VARIABLES * MOST_STATES * MOST_STATES;
        private static final int PARTS = MOST_RULES * (MOST_SYMBOLS - 1) * MOST_STATES * MOST_STATES;
        private static final int NOTHING = -1;

        private Grammar rules = new Grammar();
        private Machine machine = new Machine();
        /** Triples are divided by this, so it is never 0. */
        private int states = 1;
        int root;

        final long[] lengths = new long[TRIPLES];
        final int[] heights = new int[TRIPLES];
        final int[] order = new int[TRIPLES];
        int settled;
        final long[] known = new long[MOST_VARIABLES * MOST_STATES];

        private final int[] heap = new int[TRIPLES];
        private final int[] seats = new int[TRIPLES];
        private int heapCount;

        /** Parts of rules: their first symbols, from a state to a state; the least length, then height. */
        private final long[] partLengths = new long[PARTS];
        private final int[] partHeights = new int[PARTS];
        private final int[] firstParts = new int[MOST_RULES];

        private final long[] usable = new long[MOST_VARIABLES * MOST_STATES];
        private final long[] ahead = new long[MOST_SYMBOLS + 1];

        boolean find(Grammar grammar, Machine automaton) {
            prepare(grammar, automaton);
            for (int r = 0; r < rules.rules; r++) {
                for (int state = 0; state < states; state++) {
                    reach(r, 0, state, state, 0, 0);
                }
            }
            for (int turn = 0; turn < TRIPLES && heapCount > 0 && root == NOTHING; turn++) {
                int triple = takeLeast();
                settle(triple);
                if (isRoot(triple)) {
                    root = triple;
                } else {
                    spread(triple);
                }
            }
            if (root == NOTHING) {
                settleGreatOnes();
            }
            return root != NOTHING;
        }

        private void prepare(Grammar grammar, Machine automaton) {
            rules = grammar;
            machine = automaton;
            states = Math.max(1, machine.states);
            root = NOTHING;
            settled = 0;
            heapCount = 0;
            int square = states * states;
            int parts = 0;
            for (int r = 0; r < rules.rules; r++) {
                firstParts[r] = parts;
                parts += Math.max(0, rules.lengths[r] - 1) * square;
            }
            Arrays.fill(partLengths, 0, parts, ENDLESS);
            Arrays.fill(seats, 0, rules.variables * square, 0);
            Arrays.fill(known, 0);
        }

        int tripleOf(int x, int from, int to) {
            return (x * states + from) * states + to;
        }

        int variableOf(int triple) {
            return triple / states / states;
        }

        int fromOf(int triple) {
            return triple / states % states;
        }

        int toOf(int triple) {
            return triple % states;
        }

        private boolean isRoot(int triple) {
            return triple < states && !machine.endsIn(triple);
        }

        private int partOf(int r, int d, int from, int to) {
            return firstParts[r] + ((d - 1) * states + from) * states + to;
        }

        /** The first d symbols of a rule were come to with a length and a height; what follows from that. */
        private void reach(int r, int d, int from, int to, long length, int height) {
            if (length >= MOST) {
                return;
            }
            if (d >= rules.lengths[r]) {
                offer(tripleOf(rules.heads[r], from, to), length, height + 1);
                return;
            }
            if (d > 0 && !betters(partOf(r, d, from, to), length, height)) {
                return;
            }
            int symbol = rules.symbolAt(r, d);
            if (symbol < VARIABLE) {
                reach(r, d + 1, from, machine.after(to, symbol), length + 1, height);
                return;
            }
            int x = symbol - VARIABLE;
            for (long rest = known[rowOf(x, to)]; rest != 0; rest &= rest - 1) {
                int end = Long.numberOfTrailingZeros(rest);
                int triple = tripleOf(x, to, end);
                reach(r, d + 1, from, end, length + lengths[triple], Math.max(height, heights[triple]));
            }
        }

        private boolean betters(int part, long length, int height) {
            if (length > partLengths[part] || length == partLengths[part] && height >= partHeights[part]) {
                return false;
            }
            partLengths[part] = length;
            partHeights[part] = height;
            return true;
        }

        private void settle(int triple) {
            order[settled] = triple;
            settled++;
            known[rowOf(variableOf(triple), fromOf(triple))] |= 1L << toOf(triple);
        }

        /** Puts a settled triple behind all parts of rules that wait for it. */
        private void spread(int triple) {
            int wanted = VARIABLE + variableOf(triple);
            int from = fromOf(triple);
            int to = toOf(triple);
            for (int r = 0; r < rules.rules; r++) {
                for (int d = 0; d < rules.lengths[r]; d++) {
                    if (rules.symbolAt(r, d) != wanted) {
                        continue;
                    }
                    if (d == 0) {
                        reach(r, 1, from, to, lengths[triple], heights[triple]);
                    } else {
                        spreadBehind(r, d, triple);
                    }
                }
            }
        }

        private void spreadBehind(int r, int d, int triple) {
            int middle = fromOf(triple);
            int to = toOf(triple);
            for (int from = 0; from < states; from++) {
                int part = partOf(r, d, from, middle);
                if (partLengths[part] != ENDLESS) {
                    reach(r, d + 1, from, to, partLengths[part] + lengths[triple],
                            Math.max(partHeights[part], heights[triple]));
                }
            }
        }

        private void offer(int triple, long length, int height) {
            if ((known[rowOf(variableOf(triple), fromOf(triple))] >>> toOf(triple) & 1) != 0) {
                return;
            }
            int seat = seats[triple] - 1;
            if (seat < 0) {
                seat = heapCount;
                heapCount++;
            } else if (length > lengths[triple] || length == lengths[triple] && height >= heights[triple]) {
                return;
            }
            lengths[triple] = length;
            heights[triple] = height;
            rise(triple, seat);
        }

        /** Of triples that are alike the first one goes ahead: among roots, that with the least end. */
        private boolean isLess(int one, int other) {
            if (lengths[one] != lengths[other]) {
                return lengths[one] < lengths[other];
            }
            if (heights[one] != heights[other]) {
                return heights[one] < heights[other];
            }
            return one < other;
        }

        private void rise(int triple, int seat) {
            int at = seat;
            for (int above = (at - 1) / 2; at > 0 && isLess(triple, heap[above]); above = (at - 1) / 2) {
                sit(heap[above], at);
                at = above;
            }
            sit(triple, at);
        }

        private void sit(int triple, int seat) {
            heap[seat] = triple;
            seats[triple] = seat + 1;
        }

        private int takeLeast() {
            int least = heap[0];
            heapCount--;
            int moved = heap[heapCount];
            int at = 0;
            for (int below = 1; below < heapCount; below = 2 * at + 1) {
                if (below + 1 < heapCount && isLess(heap[below + 1], heap[below])) {
                    below++;
                }
                if (!isLess(heap[below], moved)) {
                    break;
                }
                sit(heap[below], at);
                at = below;
            }
            sit(moved, at);
            return least;
        }

        /** What is not settled yet has the length MOST, whatever it is put together from. */
        private void settleGreatOnes() {
            Arrays.fill(usable, 0);
            for (int height = 1; height <= TRIPLES && root == NOTHING; height++) {
                if (useThoseOf(height)) {
                    for (int r = 0; r < rules.rules; r++) {
                        settleGreatOnesBy(r, height + 1);
                    }
                    long ends = known[0] & ~machine.last;
                    root = ends == 0 ? NOTHING : Long.numberOfTrailingZeros(ends);
                }
            }
        }

        private boolean useThoseOf(int height) {
            boolean some = false;
            for (int i = 0; i < settled; i++) {
                int triple = order[i];
                if (heights[triple] == height) {
                    usable[rowOf(variableOf(triple), fromOf(triple))] |= 1L << toOf(triple);
                    some = true;
                }
            }
            return some;
        }

        private void settleGreatOnesBy(int r, int height) {
            int x = rules.heads[r];
            for (int from = 0; from < states; from++) {
                follow(rules, machine, usable, r, from, ahead);
                long ends = ahead[rules.lengths[r]] & ~known[rowOf(x, from)];
                for (long rest = ends; rest != 0; rest &= rest - 1) {
                    int triple = tripleOf(x, from, Long.numberOfTrailingZeros(rest));
                    lengths[triple] = MOST;
                    heights[triple] = height;
                    settle(triple);
                }
            }
        }
    }

    /**
     * The witness at hand. Each triple in its tree has one choice of a rule and of the states in it; so the
     * tree is never written out, however long it is, and nodes and letters are found from the root down.
     */
    private static final class Witness {
        private static final int STATE_BITS = 6, STATE_MASK = 63;

        boolean atHand;
        final Search search = new Search();
        private final Grammar rules = new Grammar();
        private Machine machine = new Machine();

        private final int[] chosen = new int[Search.TRIPLES];
        private final int[] between = new int[Search.TRIPLES];
        private final long[] nodes = new long[Search.TRIPLES];

        private final long[] ahead = new long[MOST_SYMBOLS + 1];
        private final long[] rests = new long[(MOST_SYMBOLS + 1) * MOST_STATES];

        private long left;
        private long lettersBefore;

        long rootLength() {
            return search.lengths[search.root];
        }

        long rootHeight() {
            return search.heights[search.root];
        }

        long rootNodes() {
            return nodes[search.root];
        }

        long rootEnd() {
            return search.toOf(search.root);
        }

        /** Trees of lesser triples were settled before, so one way down chooses and one way up counts. */
        void hold(Grammar grammar, Machine automaton) {
            rules.takeFrom(grammar);
            machine = automaton;
            for (int i = 0; i < search.settled; i++) {
                nodes[search.order[i]] = 0;
            }
            nodes[search.root] = 1;
            for (int i = search.settled - 1; i >= 0; i--) {
                int triple = search.order[i];
                if (nodes[triple] != 0) {
                    choose(triple);
                    markBelow(triple);
                }
            }
            for (int i = 0; i < search.settled; i++) {
                int triple = search.order[i];
                if (nodes[triple] != 0) {
                    nodes[triple] = countNodes(triple);
                }
            }
            atHand = true;
        }

        private void choose(int triple) {
            int x = search.variableOf(triple);
            for (int r = 0; r < rules.rules; r++) {
                if (rules.heads[r] == x && fits(r, triple)) {
                    chosen[triple] = r;
                    between[triple] = leastStates(r, triple);
                    return;
                }
            }
        }

        /** Whether a rule gives a triple its length from lower trees alone; fills rests on the way. */
        private boolean fits(int r, int triple) {
            int from = search.fromOf(triple);
            int length = rules.lengths[r];
            follow(rules, machine, search.known, r, from, ahead);
            for (long rest = ahead[length]; rest != 0; rest &= rest - 1) {
                int state = Long.numberOfTrailingZeros(rest);
                rests[length * MOST_STATES + state] = state == search.toOf(triple) ? 0 : ENDLESS;
            }
            for (int d = length - 1; d >= 0; d--) {
                for (long rest = ahead[d]; rest != 0; rest &= rest - 1) {
                    int state = Long.numberOfTrailingZeros(rest);
                    rests[d * MOST_STATES + state] = leastRest(r, d, state, search.heights[triple]);
                }
            }
            return rests[from] == search.lengths[triple];
        }

        /** The least length of the symbols from d on, when their trees are lower than a height. */
        private long leastRest(int r, int d, int state, int height) {
            int symbol = rules.symbolAt(r, d);
            int behind = (d + 1) * MOST_STATES;
            if (symbol < VARIABLE) {
                return plus(1, rests[behind + machine.after(state, symbol)]);
            }
            int x = symbol - VARIABLE;
            long least = ENDLESS;
            for (long rest = search.known[rowOf(x, state)]; rest != 0; rest &= rest - 1) {
                int to = Long.numberOfTrailingZeros(rest);
                int triple = search.tripleOf(x, state, to);
                if (search.heights[triple] < height) {
                    least = Math.min(least, plus(search.lengths[triple], rests[behind + to]));
                }
            }
            return least;
        }

        private int leastStates(int r, int triple) {
            int packed = 0;
            int state = search.fromOf(triple);
            long sofar = 0;
            for (int d = 0; d < rules.lengths[r]; d++) {
                int symbol = rules.symbolAt(r, d);
                if (symbol < VARIABLE) {
                    state = machine.after(state, symbol);
                    sofar = plus(sofar, 1);
                } else {
                    int to = leastEnd(symbol - VARIABLE, d, state, sofar, triple);
                    sofar = plus(sofar, search.lengths[search.tripleOf(symbol - VARIABLE, state, to)]);
                    state = to;
                }
                if (d < rules.lengths[r] - 1) {
                    packed |= state << STATE_BITS * d;
                }
            }
            return packed;
        }

        /** The least state behind symbol d with which a triple's length can still be met. */
        private int leastEnd(int x, int d, int state, long sofar, int triple) {
            for (long rest = search.known[rowOf(x, state)]; rest != 0; rest &= rest - 1) {
                int to = Long.numberOfTrailingZeros(rest);
                int part = search.tripleOf(x, state, to);
                long whole = plus(plus(sofar, search.lengths[part]), rests[(d + 1) * MOST_STATES + to]);
                if (search.heights[part] < search.heights[triple] && whole == search.lengths[triple]) {
                    return to;
                }
            }
            return 0;
        }

        private int stateBefore(int triple, int d) {
            return d == 0 ? search.fromOf(triple) : between[triple] >>> STATE_BITS * (d - 1) & STATE_MASK;
        }

        /** The triple at symbol d of the chosen rule, which is a variable. */
        private int below(int triple, int d) {
            int r = chosen[triple];
            int to = d == rules.lengths[r] - 1 ? search.toOf(triple) : stateBefore(triple, d + 1);
            return search.tripleOf(rules.symbolAt(r, d) - VARIABLE, stateBefore(triple, d), to);
        }

        private void markBelow(int triple) {
            int r = chosen[triple];
            for (int d = 0; d < rules.lengths[r]; d++) {
                if (rules.symbolAt(r, d) >= VARIABLE) {
                    nodes[below(triple, d)] = 1;
                }
            }
        }

        private long countNodes(int triple) {
            int r = chosen[triple];
            long count = 1;
            for (int d = 0; d < rules.lengths[r]; d++) {
                if (rules.symbolAt(r, d) >= VARIABLE) {
                    count = plus(count, nodes[below(triple, d)]);
                }
            }
            return count;
        }

        int letterAt(long i) {
            if (i < 0 || i >= rootLength()) {
                return NONE;
            }
            left = i;
            int triple = search.root;
            for (int level = 0; level < search.settled; level++) {
                int d = symbolOfLetter(triple);
                int symbol = rules.symbolAt(chosen[triple], d);
                if (symbol < VARIABLE) {
                    return symbol;
                }
                triple = below(triple, d);
            }
            return NONE;
        }

        /** The symbol of a triple's rule in which its letter number left is; left is counted from there on. */
        private int symbolOfLetter(int triple) {
            int r = chosen[triple];
            for (int d = 0; d < rules.lengths[r]; d++) {
                long length = rules.symbolAt(r, d) < VARIABLE ? 1 : search.lengths[below(triple, d)];
                if (left < length) {
                    return d;
                }
                left -= length;
            }
            return 0;
        }

        long tellNode(long k, int what) {
            if (k < 0 || k >= rootNodes()) {
                return NONE;
            }
            int triple = tripleOfNode(k);
            switch (what) {
                case 0: return search.variableOf(triple);
                case 1: return chosen[triple];
                case 2: return search.fromOf(triple);
                case 3: return search.toOf(triple);
                case 4: return nodes[triple];
                case 5: return search.lengths[triple];
                case 6: return lettersBefore;
                default: return BAD;
            }
        }

        private int tripleOfNode(long k) {
            left = k;
            lettersBefore = 0;
            int triple = search.root;
            for (int level = 0; level < search.settled && left > 0; level++) {
                left--;
                triple = belowWithNode(triple);
            }
            return triple;
        }

        /** The triple right below in which node number left is; left is counted from there on. */
        private int belowWithNode(int triple) {
            int r = chosen[triple];
            for (int d = 0; d < rules.lengths[r]; d++) {
                if (rules.symbolAt(r, d) < VARIABLE) {
                    lettersBefore = plus(lettersBefore, 1);
                    continue;
                }
                int part = below(triple, d);
                if (left < nodes[part]) {
                    return part;
                }
                left -= nodes[part];
                lettersBefore = plus(lettersBefore, search.lengths[part]);
            }
            return triple;
        }
    }
}

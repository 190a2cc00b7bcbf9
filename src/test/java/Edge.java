import java.util.ArrayList;
import java.util.List;
import java.util.function.ToLongFunction;

/**
 * An edge that objects are brought to: so many patterns made, so many of them still on the stack, so many letters,
 * rules, and symbols of the right being made. What is not named is filled in part.
 */
record Edge(int made, int onStack, int letters, int rules, int symbols) {
    /** Out of every range that the document names, on either side. */
    static final int[] FAR = {Integer.MIN_VALUE, Integer.MIN_VALUE + 1, -1000000, -65536, -256, -64, -32, 32, 64, 256,
        65536, 1000000, Integer.MAX_VALUE - 1, Integer.MAX_VALUE};

    /** With plain kinds the first five read every text, by grade 1; the others are useless. */
    private static final int[][] RULES = {{3, 4, 3}, {3}, {4, 0}, {4, 1}, {4, 2}, {5, 0}, {5, 1, 6}, {6}, {6, 2}};
    private static final int[] RIGHT = {4, 0, 1, 2};

    static final Edge NONE = new Edge(5, 2, 6, 5, 2);
    static final Edge EMPTY = new Edge(0, 0, 0, 0, 0);
    static final Edge FULL = new Edge(60, 8, 24, 9, 4);

    static Edge patterns(int made, int onStack) {
        return new Edge(made, onStack, NONE.letters, NONE.rules, NONE.symbols);
    }

    static Edge text(int letters) {
        return new Edge(NONE.made, NONE.onStack, letters, NONE.rules, NONE.symbols);
    }

    static Edge grammar(int rules, int symbols) {
        return new Edge(NONE.made, NONE.onStack, NONE.letters, rules, symbols);
    }

    GrammarTables make() {
        GrammarTables x = new GrammarTables();
        makeKinds(x, made - onStack);
        for (int n = 0; n < onStack; n++) {
            x.leaf((n + 3) % 5);
        }
        for (int n = 0; n < letters; n++) {
            x.letter(n % 3);
        }
        for (int r = 0; r < rules; r++) {
            Grammars.add(x, RULES[r]);
        }
        for (int n = 0; n < symbols; n++) {
            x.symbol(RIGHT[n]);
        }
        return x;
    }

    /** Letter k is the pattern of kind k; what is left to make goes into a longer pattern for kind 2. */
    private static void makeKinds(GrammarTables x, int count) {
        for (int k = 0; k < 3 && k < count; k++) {
            x.leaf(k);
            x.kind(k);
        }
        if (count > 3) {
            x.leaf(2);
            for (int n = 5; n <= count; n++) {
                x.repeat(1);
            }
            x.kind(2);
        }
    }

    /**
     * The call answers what is due, the code of a refusal or an answer of a question, and all that can be asked
     * later is answered as if it had not been made.
     */
    void leftAlone(Check check, String call, ToLongFunction<GrammarTables> asked, long due) {
        GrammarTables x = make();
        check.due(call + " at " + this, asked.applyAsLong(x), due);
        List<Long> got = reveal(x);
        List<Long> want = reveal(make());
        int same = 0;
        while (same < got.size() && same < want.size() && got.get(same).equals(want.get(same))) {
            same++;
        }
        boolean equal = same == got.size() && same == want.size();
        check.due(call + " at " + this + " changes what is asked later, first at number", equal ? -1 : same, -1);
    }

    // ---- all that an object holds, told by its answers; it is used up by this, in some 300 calls

    private static List<Long> reveal(GrammarTables x) {
        List<Long> told = new ArrayList<>();
        tellText(x, told);
        tellGrammar(x, told);
        tellReading(x, told);
        told.add((long) x.letter(0));
        tellStack(x, told);
        tellMade(x, told);
        x.patternless();
        Grammars.plainKinds(x);
        for (int i = 0; i < 24; i++) {
            told.add((long) x.kindOf(i));
        }
        tellRules(x, told);
        tellRight(x, told);
        return told;
    }

    private static void tellText(GrammarTables x, List<Long> told) {
        told.add((long) x.tokens());
        told.add((long) x.wrongAt());
        for (int i = 0; i < 24; i++) {
            told.add((long) x.kindOf(i));
            told.add((long) x.lengthOf(i));
        }
        for (int k = 0; k < 3; k++) {
            told.add((long) x.automaton(k));
        }
    }

    private static void tellGrammar(GrammarTables x, List<Long> told) {
        for (int r = 0; r < 9; r++) {
            told.add(x.useful(r) ? 1L : 0L);
        }
        for (int v = 3; v <= 6; v++) {
            told.add((long) x.begins(v));
            told.add((long) x.follows(v));
        }
        told.add((long) x.states());
        told.add((long) x.wideStates());
        told.add((long) x.grade());
    }

    private static void tellReading(GrammarTables x, List<Long> told) {
        told.add(x.reads() ? 1L : 0L);
        told.add((long) x.stopsAt());
        told.add((long) x.uses());
        for (int i = 0; i < 6; i++) {
            told.add((long) x.used(i));
        }
        told.add((long) x.value());
    }

    private static void tellStack(GrammarTables x, List<Long> told) {
        int left = 8;
        for (int n = 0; n < 9 && left >= 0; n++) {
            left = x.kind(0);
            told.add((long) left);
            told.add((long) x.automaton(0));
            told.add((long) x.lengthOf(0));
            told.add((long) x.wrongAt());
        }
    }

    private static void tellMade(GrammarTables x, List<Long> told) {
        told.add((long) x.leaf(4));
        int more = 0;
        while (more < 60 && x.repeat(2) > 0) {
            more++;
        }
        told.add((long) more);
    }

    private static void tellRules(GrammarTables x, List<Long> told) {
        int left = 9;
        for (int n = 0; n < 10 && left >= 0; n++) {
            left = x.unrule();
            told.add((long) left);
            told.add((long) x.states());
            told.add((long) x.value());
        }
    }

    private static void tellRight(GrammarTables x, List<Long> told) {
        told.add((long) x.rule(3));
        for (int v = 4; v <= 6; v++) {
            Grammars.add(x, v, v - 4);
        }
        tellGrammar(x, told);
    }
}

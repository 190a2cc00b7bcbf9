/** Grammars with what the document asks of them; a rule is its left and then its right. */
final class Grammars {
    record Case(int states, int wideStates, int grade, int[][] rules) { }

    private static final int LARGE = GrammarTables.LARGE;

    static final Case[] CASES = {
        // grade 0: no complete item beside another one or a kind
        new Case(2, 2, 0, new int[][] {{3}}),
        new Case(4, 4, 0, new int[][] {{3, 0, 1}}),
        new Case(6, 10, 0, new int[][] {{3, 0, 3, 1}, {3, 2}}),
        // grade 1, for the first rule's item stands beside one with a kind as its next symbol
        new Case(5, 5, 1, new int[][] {{3, 3, 1, 0}, {3, 0}}),
        new Case(9, 9, 1, new int[][] {{3, 3, 1, 4}, {3, 4}, {4, 4, 2, 5}, {4, 5}, {5, 0}}),
        new Case(6, 10, 1, new int[][] {{3, 0, 3, 1, 3}, {3}}),
        // grade 2: what follows 5 would also follow it where a 4 must stay a 4
        new Case(10, 14, 2, new int[][] {{3, 4, 0, 5}, {3, 5}, {4, 1, 5}, {4, 2}, {5, 4}}),
        // grade 3: looks that mix when states with the same items are put together
        new Case(13, 14, 3, new int[][] {{3, 0, 4, 0}, {3, 1, 5, 0}, {3, 0, 5, 1}, {3, 1, 4, 1}, {4, 2}, {5, 2}}),
        new Case(18, 43, 3, new int[][]
            {{3, 0, 4, 0}, {3, 1, 5, 0}, {3, 0, 5, 1}, {3, 2, 4, 1}, {4, 2}, {5, 2}, {5, 4, 2, 3}}),
        // grade 4: more ways than one, equal rules, and palindromes
        new Case(5, 5, 4, new int[][] {{3, 3, 0, 3}, {3, 1}}),
        new Case(3, 3, 4, new int[][] {{3, 0}, {3, 0}}),
        new Case(3, 3, 4, new int[][] {{3, 3}, {3, 0}}),
        new Case(8, 20, 4, new int[][] {{3, 0, 3, 0}, {3, 1, 3, 1}, {3}}),
        // 60 states, and 61
        new Case(60, LARGE, 0, new int[][]
            {{3, 1, 1}, {4, 3, 3, 2, 2}, {5, 6, 4, 4, 6}, {6, 2, 2, 4, 5}, {3, 0, 6, 5, 5}, {3, 2, 2, 5, 3},
                {5, 1, 0, 1, 4}, {4, 2, 3, 6, 2}, {5, 3, 2, 6, 4}}),
        new Case(60, LARGE, 1, new int[][]
            {{3, 1, 1, 2, 5}, {4, 1, 5, 5, 0}, {5, 3, 3, 5, 0}, {5, 1, 2, 2}, {4, 1, 5, 4, 4}, {6, 1, 1, 4, 2},
                {5, 6, 1, 3, 4}, {3, 3, 1, 1, 6}, {4, 3, 3, 6, 4}}),
        new Case(60, LARGE, 2, new int[][]
            {{3, 2, 6, 0, 5}, {4, 2, 5, 4}, {5, 1, 4, 6, 0}, {6, 1, 1, 1, 1}, {5, 2, 1, 1, 5}, {4, 6, 0, 5, 4},
                {4, 1, 1, 6, 2}, {5, 2, 6, 0, 4}, {6, 3, 4, 5, 6}}),
        new Case(60, LARGE, LARGE, new int[][]
            {{3, 1, 2, 5, 5}, {4, 1, 6, 6, 3}, {5, 3, 2, 5, 1}, {6, 5, 5, 5, 2}, {3, 2, 6, 0, 6}, {5, 2, 4, 4, 2},
                {4, 2, 1, 1, 5}, {6, 1, 3, 4, 6}, {5, 1, 1, 2, 1}}),
        new Case(60, 68, 4, new int[][]
            {{3, 0, 5, 4, 0}, {4, 5, 2, 4}, {5, 2, 0, 2, 1}, {4, 2, 5, 4, 0}, {3, 2, 0, 2, 3}, {3, 1, 6, 0, 4},
                {5, 0, 5, 3, 2}, {4, 0, 4, 0, 2}, {4, 5, 0, 2}}),
        new Case(LARGE, LARGE, LARGE, new int[][]
            {{3, 2, 2, 0, 4}, {4, 5, 5, 2, 5}, {5, 2, 2, 5, 2}, {6, 0, 5, 1, 1}, {5, 3, 2, 2, 6}, {6, 1, 1, 2, 1},
                {6, 3, 3, 5, 3}, {3, 0, 0, 0, 6}, {5, 0, 3, 6, 1}}),
        new Case(LARGE, LARGE, LARGE, new int[][]
            {{3, 1, 2, 5, 5}, {4, 1, 6, 6, 3}, {5, 3, 2, 5, 1}, {6, 5, 2, 5, 2}, {3, 2, 6, 0, 6}, {5, 2, 4, 4, 2},
                {4, 2, 1, 1, 6}, {6, 1, 3, 4, 6}, {5, 1, 1, 2, 1}}),
        // 80 wide states, with each grade
        new Case(20, 80, 0, new int[][]
            {{3, 0, 4, 0, 0}, {3, 1, 5, 0, 2}, {3, 0, 5}, {3, 1, 4, 5, 4}, {4, 2}, {5, 1, 4, 3}, {3, 5, 3}}),
        new Case(23, 80, 1, new int[][]
            {{3, 0, 4, 0, 6}, {3, 1, 5, 0}, {3, 0, 5, 1}, {3, 1, 4}, {4, 2}, {5, 0, 6, 3, 3}, {6, 5, 3},
                {5, 4, 2, 4, 4}}),
        new Case(20, 80, 2, new int[][]
            {{3, 0, 4, 0}, {3, 1, 5, 0, 4}, {3, 0, 5, 1}, {3, 1, 4, 1, 3}, {4, 2}, {5, 3, 5, 3, 3}, {5, 4}}),
        new Case(22, 80, 3, new int[][]
            {{3, 0, 4, 4, 5}, {3, 1, 5, 0}, {3, 0, 5, 1, 3}, {3, 1, 4, 1, 4}, {4, 2}, {5, 2}, {4, 0, 2, 1, 3}}),
        new Case(23, 80, 4, new int[][]
            {{3, 0, 4, 0}, {3, 1, 5, 0}, {3, 0, 5, 1}, {3, 1, 4, 1}, {4, 2}, {5, 2}, {3, 2, 5, 6, 2},
                {3, 4, 6, 6, 1}, {6, 3}}),
        // 81 wide states: the grades 0 to 2 are told all the same
        new Case(27, LARGE, 0, new int[][]
            {{3, 0, 4, 0}, {3, 1, 5}, {3, 0, 5, 1}, {3, 1, 4, 1, 6}, {4, 2}, {5, 1, 4, 2}, {3, 4, 3, 2, 3},
                {5, 6, 6, 5, 5}, {6, 0, 5, 0}}),
        new Case(20, LARGE, 1, new int[][]
            {{3, 0, 4, 0}, {3, 1, 5, 0}, {3, 0, 5, 2, 0}, {3, 1, 4, 1}, {4, 2}, {5, 2, 2}, {5, 3, 5, 5, 3},
                {6, 0, 3, 2}, {6, 3}}),
        new Case(24, LARGE, 2, new int[][]
            {{3, 0, 4, 0}, {3, 2, 5, 0, 0}, {3, 0, 5, 1, 4}, {3, 1, 4, 1}, {4, 2}, {5, 2}, {4, 0, 3},
                {5, 1, 2, 5, 4}, {4, 4, 0, 6, 3}}),
        new Case(21, LARGE, LARGE, new int[][]
            {{3, 0, 4, 0}, {3, 1, 5, 0, 2}, {3, 0, 5, 1}, {3, 1, 4, 1, 0}, {4, 2}, {5, 3, 3}, {5, 5, 6, 4, 4},
                {5, 0, 5, 2, 2}, {5, 2}}),
        new Case(19, LARGE, LARGE, new int[][]
            {{3, 0, 4, 0}, {3, 1, 5}, {3, 0, 5, 1, 1}, {3, 1, 4, 1, 2}, {4, 2}, {5, 2}, {4, 3, 4, 4, 3}}),
    };

    private Grammars() {
    }

    /** Rules written as digits, each its left and then its right: "304 40" is 3 becomes 0 4, and 4 becomes 0. */
    static int[][] rules(String digits) {
        String[] words = digits.split(" ");
        int[][] rules = new int[words.length][];
        for (int r = 0; r < words.length; r++) {
            rules[r] = words[r].chars().map(c -> c - '0').toArray();
        }
        return rules;
    }

    /** Adds the rules, and answers the object. */
    static GrammarTables load(int[]... rules) {
        GrammarTables x = new GrammarTables();
        for (int[] rule : rules) {
            add(x, rule);
        }
        return x;
    }

    static int add(GrammarTables x, int... rule) {
        for (int j = 1; j < rule.length; j++) {
            x.symbol(rule[j]);
        }
        return x.rule(rule[0]);
    }

    /** Letter k becomes the pattern of kind k. */
    static void plainKinds(GrammarTables x) {
        for (int k = 0; k < 3; k++) {
            x.leaf(k);
            x.kind(k);
        }
    }

    static void write(GrammarTables x, int... letters) {
        x.textless();
        for (int l : letters) {
            x.letter(l);
        }
    }
}

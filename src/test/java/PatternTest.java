/** Promises 1 to 6 and 13: patterns, kinds and their automata. */
public final class PatternTest {
    private static final Check CHECK = new Check();

    public static void main(String[] args) {
        newObject();
        leaf();
        repeat();
        join();
        kind();
        patternless();
        sixtyPatterns();
        automata();
        CHECK.end();
    }

    private static void due(String call, long got, long want) {
        CHECK.due(call, got, want);
    }

    private static void newObject() {
        GrammarTables x = new GrammarTables();
        due("new: tokens", x.tokens(), 0);
        due("new: wrongAt", x.wrongAt(), GrammarTables.NONE);
        due("new: unrule", x.unrule(), GrammarTables.NONE);
        due("new: symbol(6)", x.symbol(6), 1);
        due("new: kind(0)", x.kind(0), GrammarTables.TOO_FEW);
        for (int k = 0; k < 3; k++) {
            due("new: automaton " + k, x.automaton(k), 1);
        }
        due("new: leaf(0)", x.leaf(0), 1);
        due("new: letter(0)", x.letter(0), 1);
    }

    private static void leaf() {
        GrammarTables x = new GrammarTables();
        due("leaf(-1)", x.leaf(-1), GrammarTables.BAD_ARG);
        due("leaf(5)", x.leaf(5), GrammarTables.BAD_ARG);
        due("leaf(min)", x.leaf(Integer.MIN_VALUE), GrammarTables.BAD_ARG);
        due("leaf(max)", x.leaf(Integer.MAX_VALUE), GrammarTables.BAD_ARG);
        for (int i = 1; i <= 8; i++) {
            due("leaf " + i, x.leaf(i % 5), i);
        }
        due("leaf 9", x.leaf(0), GrammarTables.FULL);
        due("leaf(5) on a full stack", x.leaf(5), GrammarTables.BAD_ARG);
        due("kind after full", x.kind(2), 7);
        due("leaf again", x.leaf(0), 8);
        int[][] matched = {{1, 0, 0}, {0, 1, 0}, {0, 0, 1}, {1, 1, 1}, {0, 0, 0}};
        for (int op = 0; op <= 4; op++) {
            for (int l = 0; l < 3; l++) {
                GrammarTables y = new GrammarTables();
                y.leaf(op);
                y.kind(1);
                y.letter(l);
                due("leaf " + op + " on letter " + l, y.tokens(), matched[op][l]);
            }
        }
    }

    private static void repeat() {
        GrammarTables x = new GrammarTables();
        due("repeat(-1)", x.repeat(-1), GrammarTables.BAD_ARG);
        due("repeat(3)", x.repeat(3), GrammarTables.BAD_ARG);
        due("repeat on none", x.repeat(0), GrammarTables.TOO_FEW);
        x.leaf(0);
        x.leaf(1);
        for (int op = 0; op <= 2; op++) {
            due("repeat " + op, x.repeat(op), 2);
        }
        int[] lengths = {3, 3, 1};
        int[] automata = {2, 3, 3};
        for (int op = 0; op <= 2; op++) {
            GrammarTables y = new GrammarTables();
            y.leaf(2);
            y.repeat(op);
            y.kind(0);
            for (int i = 0; i < 3; i++) {
                y.letter(2);
            }
            due("length under repeat " + op, y.lengthOf(0), lengths[op]);
            due("automaton of repeat " + op, y.automaton(0), automata[op]);
        }
    }

    private static void join() {
        GrammarTables x = new GrammarTables();
        due("join(-1)", x.join(-1), GrammarTables.BAD_ARG);
        due("join(2)", x.join(2), GrammarTables.BAD_ARG);
        due("join on none", x.join(0), GrammarTables.TOO_FEW);
        x.leaf(0);
        due("join on one", x.join(1), GrammarTables.TOO_FEW);
        for (int i = 2; i <= 6; i++) {
            x.leaf(3);
            due("join to " + i, x.join(i % 2), 1);
        }
        due("join on one of six", x.join(0), GrammarTables.TOO_FEW);
        x.leaf(1);
        due("join to seven", x.join(0), GrammarTables.FULL);
        due("or to seven", x.join(1), GrammarTables.FULL);
        due("refused join took nothing", x.kind(0), 1);
        x.leaf(4);
        due("empty adds nothing to six", x.join(0), 1);
        orderOfJoin();
    }

    private static void orderOfJoin() {
        GrammarTables x = new GrammarTables();
        x.leaf(0);
        x.leaf(1);
        x.join(0);
        x.kind(0);
        x.letter(0);
        x.letter(1);
        due("0 1 matches 0 1", x.lengthOf(0), 2);
        x.textless();
        x.letter(1);
        x.letter(0);
        due("0 1 on 1 0", x.wrongAt(), 0);
        x.leaf(0);
        x.leaf(1);
        x.join(1);
        x.kind(0);
        due("0 or 1 on 1 0", x.tokens(), 2);
        // (0 or not) (1 or not): each of both, and both
        x.leaf(0);
        x.repeat(2);
        x.leaf(1);
        x.repeat(2);
        x.join(0);
        x.kind(0);
        x.textless();
        x.letter(1);
        x.letter(0);
        x.letter(1);
        due("tokens of 1 0 1", x.tokens(), 2);
        due("first of 1 0 1", x.lengthOf(0), 1);
        due("second of 1 0 1", x.lengthOf(1), 2);
    }

    private static void kind() {
        GrammarTables x = new GrammarTables();
        due("kind(-1)", x.kind(-1), GrammarTables.BAD_ARG);
        due("kind(3)", x.kind(3), GrammarTables.BAD_ARG);
        due("kind of none", x.kind(2), GrammarTables.TOO_FEW);
        x.leaf(0);
        x.leaf(1);
        due("kind(0)", x.kind(0), 1);
        x.letter(1);
        due("the top was taken", x.tokens(), 1);
        due("kind(0) again", x.kind(0), 0);
        due("a kind has its last pattern", x.tokens(), 0);
        x.textless();
        x.letter(0);
        due("which is the lower one", x.kindOf(0), 0);
        x.leaf(2);
        x.repeat(0);
        due("the stack does not touch a kind", x.automaton(0), 3);
    }

    private static void patternless() {
        GrammarTables x = new GrammarTables();
        for (int k = 0; k < 3; k++) {
            x.leaf(3);
            x.kind(k);
        }
        x.leaf(0);
        x.letter(0);
        due("before patternless", x.tokens(), 1);
        x.patternless();
        due("tokens after patternless", x.tokens(), 0);
        due("wrongAt after patternless", x.wrongAt(), 0);
        due("the text stays", x.letter(1), 2);
        due("the stack is empty", x.repeat(0), GrammarTables.TOO_FEW);
        for (int k = 0; k < 3; k++) {
            due("automaton " + k + " after patternless", x.automaton(k), 1);
        }
    }

    private static void sixtyPatterns() {
        GrammarTables x = new GrammarTables();
        x.leaf(0);
        x.leaf(1);
        for (int i = 3; i <= 60; i++) {
            due("pattern " + i, x.repeat(i % 3), 2);
        }
        due("leaf 61", x.leaf(0), GrammarTables.FULL);
        due("repeat 61", x.repeat(0), GrammarTables.FULL);
        due("join 61", x.join(0), GrammarTables.FULL);
        due("bad leaf 61", x.leaf(7), GrammarTables.BAD_ARG);
        due("bad repeat 61", x.repeat(7), GrammarTables.BAD_ARG);
        due("bad join 61", x.join(7), GrammarTables.BAD_ARG);
        due("kind does not make one", x.kind(0), 1);
        due("kind does not make one", x.kind(1), 0);
        due("repeat 61 on none is full first", x.repeat(0), GrammarTables.FULL);
        due("join 61 on none is full first", x.join(0), GrammarTables.FULL);
        x.patternless();
        due("leaf 1 again", x.leaf(0), 1);
        // leaf, leaf, join and kind in turn: refused calls do not count
        GrammarTables y = new GrammarTables();
        for (int i = 0; i < 20; i++) {
            due("leaf a " + i, y.leaf(0), 1);
            y.leaf(9);
            y.join(0);
            due("leaf b " + i, y.leaf(1), 2);
            due("join " + i, y.join(1), 1);
            due("kind " + i, y.kind(0), 0);
        }
        due("leaf after sixty", y.leaf(0), GrammarTables.FULL);
    }

    private static void automata() {
        GrammarTables x = new GrammarTables();
        due("automaton(-1)", x.automaton(-1), GrammarTables.BAD_ARG);
        due("automaton(3)", x.automaton(3), GrammarTables.BAD_ARG);
        x.leaf(4);
        x.kind(0);
        due("the empty word", x.automaton(0), 2);
        x.leaf(3);
        x.repeat(0);
        x.kind(0);
        due("all words", x.automaton(0), 1);
        x.leaf(3);
        x.repeat(1);
        x.kind(0);
        due("all words but the empty one", x.automaton(0), 2);
        due("a kind without a pattern", x.automaton(1), 1);
        // any star, 0, then four times any: which of the last five were 0
        x.leaf(3);
        x.repeat(0);
        x.leaf(0);
        x.join(0);
        for (int i = 0; i < 4; i++) {
            x.leaf(3);
            x.join(0);
        }
        x.kind(2);
        due("0 at the fifth place from the end", x.automaton(2), 32);
        // 0 or 0 0 0 0 0: sets that differ as sets of places but match the same
        x.patternless();
        x.leaf(0);
        x.leaf(1);
        x.join(0);
        x.leaf(2);
        x.leaf(1);
        x.join(0);
        x.join(1);
        x.kind(1);
        due("0 1 or 2 1", x.automaton(1), 4);
        for (int i = 0; i < 6; i++) {
            x.leaf(0);
            if (i > 0) {
                x.join(0);
            }
        }
        x.repeat(0);
        x.kind(1);
        due("six letters, star", x.automaton(1), 7);
    }
}

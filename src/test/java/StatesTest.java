import java.util.Arrays;

/** Promises 20, 21, 22 and 28: states, wide states and grade. */
public final class StatesTest {
    private static final Check CHECK = new Check();

    public static void main(String[] args) {
        cases();
        noneUseful();
        uselessRulesDoNotCount();
        endIsNotSymbolThree();
        changes();
        nothingIsLeftOver();
        CHECK.end();
    }

    private static void dueAll(String name, GrammarTables x, int states, int wideStates, int grade) {
        CHECK.due(name + " states", x.states(), states);
        CHECK.due(name + " wideStates", x.wideStates(), wideStates);
        CHECK.due(name + " grade", x.grade(), grade);
        CHECK.due(name + " states again", x.states(), states);
    }

    private static void cases() {
        for (Grammars.Case c : Grammars.CASES) {
            GrammarTables x = Grammars.load(c.rules());
            dueAll(Arrays.deepToString(c.rules()), x, c.states(), c.wideStates(), c.grade());
        }
    }

    private static void noneUseful() {
        int none = GrammarTables.NONE;
        dueAll("no rule", new GrammarTables(), none, none, none);
        dueAll("no rule for 3", Grammars.load(new int[][] {{4, 0}}), none, none, none);
        dueAll("no end", Grammars.load(new int[][] {{3, 0, 3}}), none, none, none);
        dueAll("no end for 4", Grammars.load(new int[][] {{3, 4}, {4, 4, 0}}), none, none, none);
    }

    private static void uselessRulesDoNotCount() {
        GrammarTables x = Grammars.load(new int[][] {{3, 0}, {4, 1}, {3, 5, 0}, {5, 5}, {3, 0, 6}});
        dueAll("useless rules", x, 3, 3, 0);
    }

    // 3 becomes 3 0 or nothing: at the end the first rule's item is complete, and the look that
    // is 3 must not be taken for the next symbol 3 of the other items.
    private static void endIsNotSymbolThree() {
        dueAll("3 at the begin", Grammars.load(new int[][] {{3, 3, 0}, {3}}), 3, 3, 1);
        // the state behind 4 holds a complete item with the end as a look, and items with the next symbol 3
        dueAll("3 behind 4", Grammars.load(new int[][] {{3, 4, 3}, {3, 4}, {4, 0}}), 5, 5, 1);
    }

    private static void changes() {
        GrammarTables x = Grammars.load(new int[][] {{3, 3, 1, 4}, {3, 4}, {4, 0}});
        int states = x.states();
        x.symbol(3);
        CHECK.due("a right being made does not count", x.states(), states);
        x.symbol(3);
        x.rule(3);
        CHECK.due("one more rule", x.grade(), 4);
        x.unrule();
        CHECK.due("and away again", x.states(), states);
        CHECK.due("with its grade", x.grade(), 1);
        x.rule(9);
        x.textless();
        x.patternless();
        CHECK.due("what a text is made of does not count", x.states(), states);
        while (x.unrule() > 0) {
            x.grade();
        }
        dueAll("no rules left", x, GrammarTables.NONE, GrammarTables.NONE, GrammarTables.NONE);
    }

    // Each grammar after each other one on the same object.
    private static void nothingIsLeftOver() {
        for (Grammars.Case before : Grammars.CASES) {
            for (Grammars.Case c : Grammars.CASES) {
                GrammarTables x = Grammars.load(before.rules());
                x.grade();
                while (x.unrule() > 0) {
                    continue;
                }
                for (int[] rule : c.rules()) {
                    Grammars.add(x, rule);
                }
                String name = Arrays.deepToString(c.rules()) + " after " + Arrays.deepToString(before.rules());
                dueAll(name, x, c.states(), c.wideStates(), c.grade());
            }
        }
    }
}

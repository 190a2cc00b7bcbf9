/** Promises 14 to 19 and 28: rules, useful ones, begins and follows. */
public final class RuleTest {
    private static final Check CHECK = new Check();

    public static void main(String[] args) {
        symbol();
        rule();
        refusedRuleKeepsTheRight();
        unrule();
        useful();
        usefulNumbers();
        begins();
        follows();
        wrongVariables();
        onlyUsefulRulesTell();
        CHECK.end();
    }

    private static void due(String call, long got, long want) {
        CHECK.due(call, got, want);
    }

    private static void symbol() {
        GrammarTables x = new GrammarTables();
        due("symbol(-1)", x.symbol(-1), GrammarTables.BAD_ARG);
        due("symbol(7)", x.symbol(7), GrammarTables.BAD_ARG);
        due("symbol(0)", x.symbol(0), 1);
        due("symbol(6)", x.symbol(6), 2);
        due("symbol(3)", x.symbol(3), 3);
        due("symbol(2)", x.symbol(2), 4);
        due("symbol 5", x.symbol(0), GrammarTables.FULL);
        due("bad symbol 5", x.symbol(7), GrammarTables.BAD_ARG);
        due("rule", x.rule(3), 0);
        due("the right is empty again", x.symbol(0), 1);
    }

    private static void rule() {
        GrammarTables x = new GrammarTables();
        int[] bad = {-1, 0, 2, 7, Integer.MIN_VALUE, Integer.MAX_VALUE};
        for (int v : bad) {
            due("rule " + v, x.rule(v), GrammarTables.BAD_ARG);
        }
        for (int r = 0; r < 9; r++) {
            due("rule number " + r, x.rule(3 + r % 4), r);
        }
        due("rule 10", x.rule(3), GrammarTables.FULL);
        due("bad rule 10", x.rule(2), GrammarTables.BAD_ARG);
        due("one away", x.unrule(), 8);
        due("rule 9 again", x.rule(6), 8);
    }

    private static void refusedRuleKeepsTheRight() {
        GrammarTables x = new GrammarTables();
        x.symbol(1);
        x.symbol(2);
        x.rule(7);
        due("a right after BAD_ARG", x.symbol(2), 3);
        x.rule(3);
        due("begins with its first symbol", x.begins(3), 2);
        for (int r = 1; r < 9; r++) {
            x.rule(4);
        }
        x.symbol(0);
        x.rule(3);
        due("a right after FULL", x.symbol(0), 2);
        x.unrule();
        due("a right after unrule", x.symbol(0), 3);
        due("that right's rule", x.rule(3), 8);
        due("begins with both", x.begins(3), 3);
    }

    private static void unrule() {
        GrammarTables x = new GrammarTables();
        due("none to take away", x.unrule(), GrammarTables.NONE);
        Grammars.add(x, 3, 0);
        Grammars.add(x, 3, 1);
        due("begins with both", x.begins(3), 3);
        due("one left", x.unrule(), 1);
        due("begins with the first", x.begins(3), 1);
        due("none left", x.unrule(), 0);
        due("begins with none", x.begins(3), 0);
        due("none to take away again", x.unrule(), GrammarTables.NONE);
    }

    private static void dueUseful(String name, int[][] rules, int... want) {
        GrammarTables x = Grammars.load(rules);
        for (int r = 0; r < rules.length; r++) {
            CHECK.due(name + " useful " + r, x.useful(r), want[r] == 1);
        }
    }

    private static void useful() {
        dueUseful("plain", new int[][] {{3, 4, 0}, {4, 1}, {4}}, 1, 1, 1);
        dueUseful("not reached", new int[][] {{3, 0}, {4, 1}}, 1, 0);
        dueUseful("no end", new int[][] {{3, 0}, {3, 4}, {4, 4}}, 1, 0, 0);
        dueUseful("reached by a rule without an end only",
            new int[][] {{3, 0}, {3, 4, 5}, {4, 1}, {5, 5, 0}}, 1, 0, 0, 0);
        dueUseful("reached late", new int[][] {{6, 2}, {5, 6}, {4, 5}, {3, 4}}, 1, 1, 1, 1);
        dueUseful("no sentence", new int[][] {{3, 3}, {3, 4}, {4, 3}, {5, 0}}, 0, 0, 0, 0);
        dueUseful("a loop with an end", new int[][] {{3, 4}, {4, 3}, {4, 0}}, 1, 1, 1);
        dueUseful("a variable without rules", new int[][] {{3, 0, 6}, {3}}, 0, 1);
        dueUseful("the same rule twice", new int[][] {{3, 0}, {3, 0}}, 1, 1);
    }

    private static void usefulNumbers() {
        GrammarTables x = Grammars.load(new int[][] {{3}});
        int[] none = {-1, 1, 8, 9, 10, 31, 32, 64, Integer.MIN_VALUE, Integer.MAX_VALUE};
        for (int r : none) {
            CHECK.due("useful " + r, x.useful(r), false);
        }
        CHECK.due("useful 0", x.useful(0), true);
    }

    private static void begins() {
        GrammarTables x = Grammars.load(new int[][] {{3, 4, 5, 0}, {4, 1}, {4}, {5, 2}, {5, 4}});
        due("behind what can be empty", x.begins(3), 7);
        due("a kind or empty", x.begins(4), 2 + 8);
        due("by another variable", x.begins(5), 4 + 2 + 8);
        due("a variable without rules", x.begins(6), 0);
        due("only the empty list", Grammars.load(new int[][] {{3}}).begins(3), 8);
        due("empty by three variables",
            Grammars.load(new int[][] {{3, 4, 5, 6}, {4}, {5, 4, 4}, {6, 5}}).begins(3), 8);
        due("itself first", Grammars.load(new int[][] {{3, 3, 0}, {3, 1}}).begins(3), 2);
        due("itself first, and empty", Grammars.load(new int[][] {{3, 3, 0}, {3}}).begins(3), 1 + 8);
    }

    private static void follows() {
        due("3 of no rules", new GrammarTables().follows(3), 8);
        due("4 of no rules", new GrammarTables().follows(4), 0);
        GrammarTables x = Grammars.load(new int[][] {{3, 4, 5, 0}, {4, 1}, {5, 2}, {5}, {3, 1, 4}});
        due("3 by the end", x.follows(3), 8);
        due("4 by what begins 5, by 0 and by the end", x.follows(4), 4 + 1 + 8);
        due("5 by 0", x.follows(5), 1);
        due("6 by nothing", x.follows(6), 0);
        GrammarTables y = Grammars.load(new int[][] {{3, 1, 3, 2}, {3, 4}, {4, 0, 5}, {5, 6}, {6}});
        due("3 inside itself", y.follows(3), 4 + 8);
        due("4 as 3", y.follows(4), 4 + 8);
        due("5 as 4", y.follows(5), 4 + 8);
        due("6 as 5", y.follows(6), 4 + 8);
        due("a variable behind itself", Grammars.load(new int[][] {{3, 3, 3}, {3, 1}}).follows(3), 2 + 8);
    }

    private static void wrongVariables() {
        GrammarTables x = Grammars.load(new int[][] {{3, 0}});
        int[] bad = {-1, 0, 2, 7, 8, Integer.MIN_VALUE, Integer.MAX_VALUE};
        for (int v : bad) {
            due("begins " + v, x.begins(v), GrammarTables.BAD_ARG);
            due("follows " + v, x.follows(v), GrammarTables.BAD_ARG);
        }
    }

    private static void onlyUsefulRulesTell() {
        GrammarTables x = Grammars.load(new int[][] {{3, 0}, {3, 1, 4}, {4, 4, 2}, {5, 2, 5}, {5, 1, 3, 2}, {6}});
        due("begins 3", x.begins(3), 1);
        due("begins 4", x.begins(4), 0);
        due("begins 5", x.begins(5), 0);
        due("begins 6", x.begins(6), 0);
        due("follows 3", x.follows(3), 8);
        due("follows 4", x.follows(4), 0);
        due("follows 5", x.follows(5), 0);
    }
}

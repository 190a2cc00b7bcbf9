import java.util.function.ToLongFunction;

/** The sentences on rules that name an edge: promises 14 to 19 and 28, and what the terms say of them. */
public final class RuleEdgeTest {
    private static final Check CHECK = new Check();
    private static final int BAD_ARG = GrammarTables.BAD_ARG;
    private static final int FULL = GrammarTables.FULL;
    private static final int NONE = GrammarTables.NONE;

    public static void main(String[] args) {
        symbolAppends();
        symbolOutOfRange();
        symbolFull();
        symbolInOrder();
        symbolAnswers();
        ruleAdds();
        ruleEmptiesTheRight();
        ruleOutOfRange();
        ruleFull();
        ruleInOrder();
        ruleAnswers();
        refusedRuleKeepsTheRight();
        unruleTakesTheLast();
        unruleNone();
        unruleAnswers();
        usefulNone();
        usefulOrNot();
        beginsEmptyList();
        beginsOutOfRange();
        followsLooks();
        followsOutOfRange();
        questionsChangeNothing();
        CHECK.end();
    }

    private static void due(String call, long got, long want) {
        CHECK.due(call, got, want);
    }

    private static void refused(Edge at, String call, ToLongFunction<GrammarTables> asked, int code) {
        at.leftAlone(CHECK, call, asked, code);
    }

    // ---- promise 14

    private static void symbolAppends() {
        CHECK.says("Promise 14: Appends a symbol to the right being made");
        // each place of a right of four, told by the text that it reads
        int[][] rights = {{0, 1, 2, 0}, {2, 2, 1, 0}, {1, 0, 0, 2}};
        for (int[] right : rights) {
            GrammarTables x = new GrammarTables();
            Grammars.plainKinds(x);
            for (int s : right) {
                x.symbol(s);
            }
            x.rule(3);
            Grammars.write(x, right);
            CHECK.due("reads its own right", x.reads(), true);
            for (int place = 0; place < 4; place++) {
                int[] other = right.clone();
                other[place] = (other[place] + 1) % 3;
                Grammars.write(x, other);
                due("stops where the right differs", x.stopsAt(), place);
            }
        }
    }

    private static void symbolOutOfRange() {
        CHECK.says("Promise 14: s not 0 to 6 answers BAD_ARG");
        refused(Edge.NONE, "symbol(-1)", x -> x.symbol(-1), BAD_ARG);
        refused(Edge.NONE, "symbol(7)", x -> x.symbol(7), BAD_ARG);
        for (int far : Edge.FAR) {
            due("symbol " + far, new GrammarTables().symbol(far), BAD_ARG);
        }
        for (int s = 0; s <= 6; s++) {
            due("symbol " + s, Edge.NONE.make().symbol(s), 3);
        }
    }

    private static void symbolFull() {
        CHECK.says("Promise 14: it has 4 answers FULL; 0 to 4 symbols as its RIGHT");
        due("symbol 4", Edge.grammar(5, 3).make().symbol(6), 4);
        for (int s = 0; s <= 6; s++) {
            int asked = s;
            refused(Edge.grammar(5, 4), "symbol 5, " + s, x -> x.symbol(asked), FULL);
        }
        refused(Edge.grammar(0, 4), "symbol 5", x -> x.symbol(0), FULL);
        refused(Edge.grammar(9, 4), "symbol 5", x -> x.symbol(0), FULL);
    }

    private static void symbolInOrder() {
        CHECK.says("Promise 14: Tested in this order: BAD_ARG; FULL");
        refused(Edge.grammar(5, 4), "symbol(-1)", x -> x.symbol(-1), BAD_ARG);
        refused(Edge.grammar(5, 4), "symbol(7)", x -> x.symbol(7), BAD_ARG);
    }

    private static void symbolAnswers() {
        CHECK.says("Promise 14: Otherwise the number of its symbols");
        GrammarTables x = new GrammarTables();
        for (int r = 0; r < 9; r++) {
            for (int n = 1; n <= r % 5; n++) {
                due("symbol " + n + " of rule " + r, x.symbol(r % 7), n);
            }
            x.rule(3);
        }
        for (int n = 1; n <= 4; n++) {
            due("symbol " + n + " behind nine rules", x.symbol(0), n);
        }
    }

    // ---- promise 15

    private static void ruleAdds() {
        CHECK.says("Promise 15: Adds a rule with the left v and the right being made");
        int[] texts = {0, 1, 2, 3, 4};
        for (int size : texts) {
            GrammarTables x = new GrammarTables();
            Grammars.plainKinds(x);
            for (int n = 0; n < size; n++) {
                x.symbol(n % 3);
                x.letter(n % 3);
            }
            due("rule of " + size, x.rule(3), 0);
            CHECK.due("reads its right of " + size, x.reads(), true);
            due("states of it", x.states(), size + 2);
        }
        GrammarTables asked = new GrammarTables();
        for (int r = 0; r < 9; r++) {
            due("states by " + r, asked.states(), r == 0 ? NONE : Math.min(r, 3) + 2);
            due("begins by " + r, asked.begins(3), (1 << Math.min(r, 3)) - 1);
            Grammars.add(asked, 3, r % 3);
        }
        for (int v = 4; v <= 6; v++) {
            GrammarTables x = new GrammarTables();
            x.symbol(1);
            x.rule(v);
            x.symbol(v);
            x.rule(3);
            for (int w = 3; w <= 6; w++) {
                due("begins " + w + " by the left " + v, x.begins(w), w == v || w == 3 ? 2 : 0);
            }
        }
    }

    private static void ruleEmptiesTheRight() {
        CHECK.says("Promise 15: the right being made, which is empty afterwards");
        for (int size = 0; size <= 4; size++) {
            GrammarTables x = Edge.grammar(0, size).make();
            x.rule(4);
            due("symbol 1 after a right of " + size, x.symbol(0), 1);
            GrammarTables y = Edge.grammar(0, size).make();
            y.rule(4);
            y.rule(3);
            due("the next rule after a right of " + size, y.begins(3), 8);
        }
    }

    private static void ruleOutOfRange() {
        CHECK.says("Promise 15: v not 3 to 6 answers BAD_ARG");
        int[] beyond = {2, 7, -1, 0, 1, 8};
        for (int v : beyond) {
            refused(Edge.NONE, "rule " + v, x -> x.rule(v), BAD_ARG);
            refused(Edge.grammar(0, 0), "rule " + v, x -> x.rule(v), BAD_ARG);
        }
        for (int far : Edge.FAR) {
            due("rule " + far, new GrammarTables().rule(far), BAD_ARG);
        }
        for (int v = 3; v <= 6; v++) {
            due("rule " + v, Edge.NONE.make().rule(v), 5);
        }
    }

    private static void ruleFull() {
        CHECK.says("Promise 15: 9 rules answers FULL; there are at most 9 rules");
        due("rule 9", Edge.grammar(8, 2).make().rule(3), 8);
        for (int v = 3; v <= 6; v++) {
            int asked = v;
            refused(Edge.grammar(9, 2), "rule 10, " + v, x -> x.rule(asked), FULL);
        }
        refused(Edge.grammar(9, 0), "rule 10 of an empty right", x -> x.rule(3), FULL);
        refused(Edge.grammar(9, 4), "rule 10 of a full right", x -> x.rule(3), FULL);
    }

    private static void ruleInOrder() {
        CHECK.says("Promise 15: Tested in this order: BAD_ARG; FULL");
        refused(Edge.grammar(9, 2), "rule(2)", x -> x.rule(2), BAD_ARG);
        refused(Edge.grammar(9, 2), "rule(7)", x -> x.rule(7), BAD_ARG);
    }

    private static void ruleAnswers() {
        CHECK.says("Promise 15: Otherwise its number; numbered 0, 1, ..");
        GrammarTables x = new GrammarTables();
        for (int r = 0; r < 9; r++) {
            due("rule " + r, x.rule(3 + r % 4), r);
        }
        for (int left = 8; left >= 0; left--) {
            x.unrule();
            due("rule " + left + " in the place of one taken away", x.rule(3), left);
            x.unrule();
        }
    }

    private static void refusedRuleKeepsTheRight() {
        CHECK.says("A refused call .. changes nothing (rule: the right being made stays)");
        for (int size = 0; size <= 4; size++) {
            GrammarTables x = Edge.grammar(9, size).make();
            x.rule(3);
            x.rule(2);
            due("the next symbol behind " + size, x.symbol(0), size == 4 ? FULL : size + 1);
        }
        GrammarTables y = Edge.grammar(9, 0).make();
        y.symbol(1);
        y.symbol(2);
        due("refused", y.rule(3), FULL);
        while (y.unrule() > 0) {
            continue;
        }
        due("taken with its right", y.rule(3), 0);
        Grammars.write(y, 1, 2);
        CHECK.due("which is 1 2", y.reads(), true);
    }

    // ---- promise 16

    private static void unruleTakesTheLast() {
        CHECK.says("Promise 16: Takes the last rule away");
        GrammarTables x = Grammars.load(new int[][] {{3, 0}, {3, 1}, {3, 2}});
        int[] begins = {7, 3, 1, 0};
        for (int left = 3; left >= 0; left--) {
            due("begins by " + left, x.begins(3), begins[3 - left]);
            for (int r = 0; r < 3; r++) {
                CHECK.due("useful " + r + " of " + left, x.useful(r), r < left);
            }
            x.unrule();
        }
        GrammarTables y = Edge.grammar(5, 3).make();
        y.unrule();
        due("the right being made stays", y.symbol(0), 4);
        nothingOfItIsLeft();
    }

    // What was found of a grammar before its last rule was taken away must not show afterwards.
    private static void nothingOfItIsLeft() {
        String[] last = {"40565", "531", "3564", "3", "4", "5", "66", "6012", "30000", "4346"};
        for (String before : last) {
            for (String after : last) {
                GrammarTables x = Grammars.load(Grammars.rules("340 351 42 5 60 " + before));
                askAll(x);
                due("one away", x.unrule(), 5);
                due("another", Grammars.add(x, Grammars.rules(after)[0]), 5);
                GrammarTables fresh = Grammars.load(Grammars.rules("340 351 42 5 60 " + after));
                long[] got = askAll(x);
                long[] want = askAll(fresh);
                for (int n = 0; n < got.length; n++) {
                    due(after + " in place of " + before + ", answer " + n, got[n], want[n]);
                }
            }
        }
    }

    private static long[] askAll(GrammarTables x) {
        return new long[] {x.begins(3), x.begins(4), x.begins(5), x.begins(6), x.follows(3), x.follows(4), x.follows(5),
            x.follows(6), x.useful(3) ? 1 : 0, x.useful(4) ? 1 : 0, x.useful(5) ? 1 : 0, x.states(), x.wideStates(),
            x.grade(), x.value()};
    }

    private static void unruleNone() {
        CHECK.says("Promise 16: NONE if there is none");
        refused(Edge.EMPTY, "unrule()", x -> x.unrule(), NONE);
        refused(Edge.grammar(0, 0), "unrule()", x -> x.unrule(), NONE);
        refused(Edge.grammar(0, 4), "unrule()", x -> x.unrule(), NONE);
        GrammarTables x = Edge.grammar(1, 0).make();
        due("the only one", x.unrule(), 0);
        due("none", x.unrule(), NONE);
        due("none again", x.unrule(), NONE);
        due("the next rule", x.rule(3), 0);
    }

    private static void unruleAnswers() {
        CHECK.says("Promise 16: Otherwise the number of rules; Promise 28: unrule answers the number that are left");
        GrammarTables x = Edge.grammar(9, 2).make();
        for (int left = 8; left >= 0; left--) {
            due("unrule to " + left, x.unrule(), left);
        }
    }

    // ---- promise 17

    private static void usefulNone() {
        CHECK.says("Promise 17: false if there is none");
        for (int rules = 0; rules <= 9; rules++) {
            GrammarTables x = new GrammarTables();
            for (int r = 0; r < rules; r++) {
                Grammars.add(x, 3, r % 3);
            }
            for (int r = -1; r <= 12; r++) {
                CHECK.due("useful " + r + " of " + rules, x.useful(r), r >= 0 && r < rules);
            }
            for (int far : Edge.FAR) {
                CHECK.due("useful " + far + " of " + rules, x.useful(far), false);
            }
        }
        GrammarTables x = Grammars.load(new int[][] {{3, 0}, {3, 1}});
        x.unrule();
        CHECK.due("one taken away", x.useful(1), false);
    }

    private static void dueUseful(String name, int[][] rules, int... want) {
        GrammarTables x = Grammars.load(rules);
        for (int r = 0; r < rules.length; r++) {
            CHECK.due(name + " " + r, x.useful(r), want[r] == 1);
        }
    }

    private static void usefulOrNot() {
        CHECK.says("A rule is USEFUL if it is used in a way from symbol 3 to some sentence");
        dueUseful("an empty right", new int[][] {{3}}, 1);
        dueUseful("a right of four", new int[][] {{3, 0, 1, 2, 0}}, 1);
        dueUseful("not for symbol 3", new int[][] {{4, 0}, {5}, {6, 1}}, 0, 0, 0);
        dueUseful("to no sentence", new int[][] {{3, 3}, {3, 0, 3}}, 0, 0);
        dueUseful("its own left in its right", new int[][] {{3, 3, 3, 3, 3}, {3}}, 1, 1);
        dueUseful("the fourth symbol has no end", new int[][] {{3, 0, 0, 0, 4}, {3, 1}}, 0, 1);
        dueUseful("reached through all variables", new int[][] {{6}, {5, 6}, {4, 5}, {3, 4}}, 1, 1, 1, 1);
        dueUseful("reached, the other way", new int[][] {{3, 4}, {4, 5}, {5, 6}, {6}}, 1, 1, 1, 1);
        dueUseful("reached by a useless rule only", new int[][] {{3, 1}, {3, 5, 4}, {4, 0}, {5, 5}}, 1, 0, 0, 0);
        dueUseful("nine rules", new int[][] {{3, 4}, {3, 5}, {4, 0}, {4, 4}, {5, 6}, {5, 5, 1}, {6, 6}, {6, 5}, {3, 6}},
            1, 0, 1, 1, 0, 0, 0, 0, 0);
    }

    // ---- promises 18 and 19

    private static void beginsEmptyList() {
        CHECK.says("Promise 18: the sum of 2 to the power k .., and 8 more if it derives the empty list");
        due("no rules", new GrammarTables().begins(3), 0);
        due("the empty list alone", Grammars.load(new int[][] {{3}}).begins(3), 8);
        for (int k = 0; k < 3; k++) {
            due("kind " + k, Grammars.load(new int[][] {{3, k}}).begins(3), 1 << k);
        }
        due("all kinds", Grammars.load(new int[][] {{3, 0}, {3, 1}, {3, 2}}).begins(3), 7);
        due("all", Grammars.load(new int[][] {{3, 0}, {3, 1}, {3, 2}, {3}}).begins(3), 15);
        GrammarTables x = Grammars.load(new int[][] {{3, 4, 4, 4, 5}, {4}, {4, 0}, {5, 1}, {5, 6, 6, 6, 6}, {6}});
        due("by the fourth symbol", x.begins(3), 1 + 2 + 8);
        due("empty by four", x.begins(5), 2 + 8);
        due("the variable 6", x.begins(6), 8);
        CHECK.says("Promise 18: that variable v derives by useful rules");
        GrammarTables y = Grammars.load(new int[][] {{3, 0}, {3, 1, 4}, {4, 4}, {5, 2}, {6}});
        int[] want = {1, 0, 0, 0};
        for (int v = 3; v <= 6; v++) {
            due("begins " + v, y.begins(v), want[v - 3]);
        }
    }

    private static void beginsOutOfRange() {
        CHECK.says("Promise 18: BAD_ARG if v is not 3 to 6");
        refused(Edge.NONE, "begins(2)", x -> x.begins(2), BAD_ARG);
        refused(Edge.NONE, "begins(7)", x -> x.begins(7), BAD_ARG);
        int[] beyond = {-1, 0, 1, 2, 7, 8};
        for (int v : beyond) {
            due("begins " + v + " of no rules", new GrammarTables().begins(v), BAD_ARG);
            due("begins " + v, Edge.FULL.make().begins(v), BAD_ARG);
        }
        for (int far : Edge.FAR) {
            due("begins " + far, Edge.NONE.make().begins(far), BAD_ARG);
        }
        due("begins(3)", Edge.NONE.make().begins(3), 15);
        due("begins(6)", Edge.NONE.make().begins(6), 0);
    }

    private static void followsLooks() {
        CHECK.says("Promise 19: The set of the looks, as the sum of 2 to the power of each, that follow variable v");
        GrammarTables none = new GrammarTables();
        int[] ofNone = {8, 0, 0, 0};
        for (int v = 3; v <= 6; v++) {
            due("no rules, " + v, none.follows(v), ofNone[v - 3]);
        }
        for (int k = 0; k < 3; k++) {
            due("kind " + k, Grammars.load(new int[][] {{3, 4, k}, {4}}).follows(4), 1 << k);
        }
        due("the end", Grammars.load(new int[][] {{3, 4}, {4}}).follows(4), 8);
        due("all", Grammars.load(new int[][] {{3, 4, 0}, {3, 4, 1}, {3, 4, 2}, {3, 4}, {4}}).follows(4), 15);
        GrammarTables x = Grammars.load(new int[][] {{3, 4, 5, 5, 5}, {4, 0}, {5}, {5, 1}, {6, 4, 2}});
        due("past three that can be empty", x.follows(4), 2 + 8);
        due("behind itself", x.follows(5), 2 + 8);
        due("in useless rules only", x.follows(6), 0);
    }

    private static void followsOutOfRange() {
        CHECK.says("Promise 19: BAD_ARG if v is not 3 to 6");
        refused(Edge.NONE, "follows(2)", x -> x.follows(2), BAD_ARG);
        refused(Edge.NONE, "follows(7)", x -> x.follows(7), BAD_ARG);
        int[] beyond = {-1, 0, 1, 2, 7, 8};
        for (int v : beyond) {
            due("follows " + v + " of no rules", new GrammarTables().follows(v), BAD_ARG);
            due("follows " + v, Edge.FULL.make().follows(v), BAD_ARG);
        }
        for (int far : Edge.FAR) {
            due("follows " + far, Edge.NONE.make().follows(far), BAD_ARG);
        }
        due("follows(3)", Edge.NONE.make().follows(3), 8);
        due("follows(6)", Edge.NONE.make().follows(6), 0);
    }

    private static void questionsChangeNothing() {
        CHECK.says("Promises 17 to 19 ask, and a call that finds none changes nothing");
        Edge.NONE.leftAlone(CHECK, "useful(4)", x -> x.useful(4) ? 1 : 0, 1);
        Edge.NONE.leftAlone(CHECK, "useful(5)", x -> x.useful(5) ? 1 : 0, 0);
        Edge.NONE.leftAlone(CHECK, "useful(-1)", x -> x.useful(-1) ? 1 : 0, 0);
        Edge.NONE.leftAlone(CHECK, "begins(4)", x -> x.begins(4), 7);
        Edge.NONE.leftAlone(CHECK, "follows(4)", x -> x.follows(4), 15);
    }
}

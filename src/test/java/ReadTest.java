/** Promises 23 to 27: reading the text, where it stops, the rules used, and the value. */
public final class ReadTest {
    private static final Check CHECK = new Check();

    public static void main(String[] args) {
        everyGrade();
        eachAskedFirst();
        wrongText();
        stops();
        stopsLate();
        emptyText();
        usedNumbers();
        manyUses();
        valueByLengths();
        valueWraps();
        notByGradeFour();
        manyWideStates();
        CHECK.end();
    }

    private static void due(String call, long got, long want) {
        CHECK.due(call, got, want);
    }

    private static void dueRead(String name, GrammarTables x, int value, int... used) {
        CHECK.due(name + " reads", x.reads(), true);
        due(name + " stopsAt", x.stopsAt(), x.tokens());
        due(name + " uses", x.uses(), used.length);
        for (int i = 0; i < used.length; i++) {
            due(name + " used " + i, x.used(i), used[i]);
        }
        due(name + " used behind", x.used(used.length), GrammarTables.NONE);
        due(name + " used before", x.used(-1), GrammarTables.NONE);
        due(name + " value", x.value(), value);
    }

    private static void dueUnread(String name, GrammarTables x, int stopsAt) {
        CHECK.due(name + " reads", x.reads(), false);
        due(name + " stopsAt", x.stopsAt(), stopsAt);
        due(name + " uses", x.uses(), GrammarTables.NONE);
        due(name + " used 0", x.used(0), GrammarTables.NONE);
        due(name + " value", x.value(), 0);
    }

    private static void everyGrade() {
        GrammarTables x = Grammars.load(new int[][] {{3, 0, 3, 1}, {3, 2}});
        Grammars.plainKinds(x);
        Grammars.write(x, 0, 0, 2, 1, 1);
        // 2 + 1 = 3; 1 + 1 + 2 * 3 + 3 = 11; 1 + 1 + 2 * 11 + 3 = 27
        dueRead("grade 0", x, 27, 1, 0, 0);

        x = Grammars.load(new int[][] {{3, 3, 1, 4}, {3, 4}, {4, 0}});
        Grammars.plainKinds(x);
        Grammars.write(x, 0, 1, 0);
        // 4: 3 + 1 = 4; 3: 2 + 4 = 6; 3: 1 + 6 + 2 + 3 * 4 = 21
        dueRead("grade 1", x, 21, 2, 1, 2, 0);

        x = Grammars.load(new int[][] {{3, 4, 0, 5}, {3, 5}, {4, 1, 5}, {4, 2}, {5, 4}});
        Grammars.plainKinds(x);
        Grammars.write(x, 2, 0, 2);
        // 4: 4 + 1 = 5; 5: 5 + 5 = 10; 3: 1 + 5 + 2 + 3 * 10 = 38
        dueRead("grade 2", x, 38, 3, 3, 4, 0);

        x = Grammars.load(new int[][] {{3, 0, 4, 0}, {3, 1, 5, 0}, {3, 0, 5, 1}, {3, 1, 4, 1}, {4, 2}, {5, 2}});
        Grammars.plainKinds(x);
        Grammars.write(x, 0, 2, 0);
        dueRead("grade 3, by rule 4", x, 1 + 1 + 2 * 6 + 3, 4, 0);
        Grammars.write(x, 1, 2, 0);
        dueRead("grade 3, by rule 5", x, 2 + 1 + 2 * 7 + 3, 5, 1);
        Grammars.write(x, 1, 2, 2);
        dueUnread("grade 3", x, 2);
    }

    private static GrammarTables freshPair() {
        GrammarTables x = Grammars.load(new int[][] {{3, 0, 3, 1}, {3, 2}});
        Grammars.plainKinds(x);
        Grammars.write(x, 0, 2, 1);
        return x;
    }

    // On a new object, and after the text, a pattern or the rules have changed.
    private static void eachAskedFirst() {
        CHECK.due("reads first", freshPair().reads(), true);
        due("stopsAt first", freshPair().stopsAt(), 3);
        due("uses first", freshPair().uses(), 2);
        due("used first", freshPair().used(0), 1);
        due("value first", freshPair().value(), 11);
        GrammarTables x = freshPair();
        x.value();
        x.letter(1);
        x.letter(1);
        due("stopsAt for more text", x.stopsAt(), 3);
        Grammars.write(x, 2);
        due("value for other text", x.value(), 3);
        Grammars.write(x, 0, 0, 2, 1, 1);
        due("uses for other text", x.uses(), 3);
        Grammars.add(x, 3, 2, 2);
        Grammars.write(x, 2, 2);
        due("used for other rules", x.used(0), 2);
        x.leaf(2);
        x.repeat(1);
        x.kind(2);
        due("value for another pattern", x.value(), 2 + 2);
        x.unrule();
        x.unrule();
        due("stopsAt without an end", x.stopsAt(), GrammarTables.NONE);
    }

    private static void wrongText() {
        GrammarTables x = Grammars.load(new int[][] {{3, 3, 0}, {3, 0}});
        x.leaf(0);
        x.kind(0);
        Grammars.write(x, 0, 0);
        dueRead("not wrong", x, 1 + (2 + 1) + 2, 1, 0);
        Grammars.write(x, 0, 0, 1);
        dueUnread("wrong behind a sentence", x, 2);
        due("its tokens", x.tokens(), 2);
        Grammars.write(x, 1);
        dueUnread("wrong at once", x, 0);
    }

    private static void stops() {
        GrammarTables x = Grammars.load(new int[][] {{3, 0, 3, 1}, {3, 2}});
        Grammars.plainKinds(x);
        Grammars.write(x, 1, 0, 2);
        dueUnread("the first token", x, 0);
        Grammars.write(x, 0, 1, 2);
        dueUnread("the second token", x, 1);
        Grammars.write(x, 0, 2, 1, 1);
        dueUnread("the last token", x, 3);
        Grammars.write(x, 0, 0, 2, 1);
        dueUnread("a sentence begins with it", x, 4);
        Grammars.write(x, 2, 2, 2);
        dueUnread("more than a sentence", x, 1);
    }

    // With less than its own looks a reader uses rules before it meets the mistake;
    // where the text stops must not move by that.
    private static void stopsLate() {
        GrammarTables x = Grammars.load(new int[][] {{3, 0, 4, 0}, {3, 1, 4, 1}, {4, 2}});
        Grammars.plainKinds(x);
        due("grade of it", x.grade(), 0);
        Grammars.write(x, 0, 2, 1);
        dueUnread("0 2 1", x, 2);
        Grammars.write(x, 1, 2, 0);
        dueUnread("1 2 0", x, 2);
        Grammars.write(x, 1, 2, 2, 1);
        dueUnread("1 2 2 1", x, 2);
        // only rules that are useful tell what sentences there are
        x = Grammars.load(new int[][] {{3, 0, 1}, {3, 0, 2, 4}, {4, 4}});
        Grammars.plainKinds(x);
        Grammars.write(x, 0, 2);
        dueUnread("by a useless rule", x, 1);
    }

    private static void emptyText() {
        GrammarTables x = Grammars.load(new int[][] {{3, 4, 5}, {4}, {5, 4, 4}});
        // 4: 2; 5: 3 + 2 + 4 = 9; 3: 1 + 2 + 18 = 21
        dueRead("empty by all variables", x, 21, 1, 1, 1, 2, 0);
        GrammarTables y = Grammars.load(new int[][] {{3, 0}});
        dueUnread("empty is no sentence", y, 0);
        dueUnread("no rules", new GrammarTables(), GrammarTables.NONE);
    }

    private static void usedNumbers() {
        GrammarTables x = Grammars.load(new int[][] {{3}});
        int[] none = {-1, 1, 199, 200, Integer.MIN_VALUE, Integer.MAX_VALUE};
        for (int i : none) {
            due("used " + i, x.used(i), GrammarTables.NONE);
        }
        due("used 0", x.used(0), 0);
    }

    // Each token brings 1 + 2 * (1 + 4 + 16) uses, far more than the 200 that used tells.
    private static void manyUses() {
        GrammarTables x = Grammars.load(new int[][] {{3, 3, 0, 4, 4}, {3}, {4, 5, 5, 5, 5}, {5, 6, 6, 6, 6}, {6}});
        x.leaf(3);
        x.kind(0);
        for (int n = 1; n <= 24; n++) {
            x.letter(n % 3);
            due("uses for " + n, x.uses(), 1 + 43 * n);
        }
        CHECK.due("reads", x.reads(), true);
        due("used 0", x.used(0), 1);
        due("used 5", x.used(5), 3);
        due("used 21", x.used(21), 2);
        due("used 43", x.used(43), 0);
        due("used 199", x.used(199), lastUsed(199));
        due("used 198", x.used(198), lastUsed(198));
        due("used 200", x.used(200), GrammarTables.NONE);
        due("used 1032", x.used(1032), GrammarTables.NONE);
        dueManyUsesOfThree();
    }

    // The order of uses for each token: (6 6 6 6 5) four times and 4, twice, and then 3.
    private static int lastUsed(int i) {
        int at = (i - 1) % 43;
        if (at == 42) {
            return 0;
        }
        if (at % 21 == 20) {
            return 2;
        }
        return at % 21 % 5 == 4 ? 3 : 4;
    }

    private static void dueManyUsesOfThree() {
        GrammarTables y = Grammars.load(
            new int[][] {{3, 4, 4, 4, 4}, {4, 5, 5, 5, 5}, {5, 6, 6, 6, 6}, {6}});
        due("uses of the empty text", y.uses(), 1 + 4 + 16 + 64);
        // 6: 4; 5: 3 + 10 * 4 = 43; 4: 2 + 430 = 432; 3: 1 + 4320
        due("value of the empty text", y.value(), 4321);
        due("used 84", y.used(84), 0);
        due("used 85", y.used(85), GrammarTables.NONE);
    }

    private static void valueByLengths() {
        GrammarTables x = Grammars.load(new int[][] {{3, 0, 1, 0}});
        x.leaf(0);
        x.repeat(1);
        x.kind(0);
        x.leaf(1);
        x.repeat(1);
        x.kind(1);
        Grammars.write(x, 0, 0, 0, 1, 1, 0);
        dueRead("lengths 3, 2, 1", x, 1 + 3 + 2 * 2 + 3, 0);
        // the numbers of rules count as they are, useless ones between them too
        x = Grammars.load(new int[][] {{4, 4}, {5, 0}, {3, 0, 5}, {6}});
        Grammars.plainKinds(x);
        Grammars.write(x, 0, 0);
        dueRead("rules 1 and 2", x, 3 + 1 + 2 * (2 + 1), 1, 2);
    }

    private static void valueWraps() {
        GrammarTables x = Grammars.load(new int[][] {{3, 0, 4, 4, 3}, {3}, {4}});
        Grammars.plainKinds(x);
        int value = 2;
        for (int n = 1; n <= 24; n++) {
            x.letter(0);
            value = 1 + 1 + 2 * 3 + 3 * 3 + 4 * value;
            due("value of " + n, x.value(), value);
        }
        GrammarTables y = Grammars.load(new int[][] {{3, 4, 4, 4, 3}, {3, 1}, {4, 0}});
        Grammars.plainKinds(y);
        value = 2 + 1;
        for (int n = 0; n < 7; n++) {
            value = 1 + 6 * 4 + 4 * value;
        }
        for (int n = 0; n < 21; n++) {
            y.letter(0);
        }
        y.letter(1);
        due("value of seven in a row", y.value(), value);
        due("uses of them", y.uses(), 1 + 7 * 4);
        due("the last used is 4", y.used(0), 2);
        due("then those in order", y.used(21), 1);
    }

    private static void notByGradeFour() {
        GrammarTables x = Grammars.load(new int[][] {{3, 3, 0, 3}, {3, 1}});
        Grammars.plainKinds(x);
        Grammars.write(x, 1);
        due("its grade", x.grade(), 4);
        dueUnread("grade 4", x, GrammarTables.NONE);
        for (Grammars.Case c : Grammars.CASES) {
            if (c.grade() == GrammarTables.LARGE) {
                GrammarTables y = Grammars.load(c.rules());
                Grammars.plainKinds(y);
                dueUnread("grade LARGE", y, GrammarTables.NONE);
            }
        }
    }

    // The grade is 2, so the text is read though the wide states are too many.
    private static void manyWideStates() {
        GrammarTables x = Grammars.load(new int[][] {{3, 0, 4, 0}, {3, 2, 5, 0, 0}, {3, 0, 5, 1, 4}, {3, 1, 4, 1},
            {4, 2}, {5, 2}, {4, 0, 3}, {5, 1, 2, 5, 4}, {4, 4, 0, 6, 3}});
        Grammars.plainKinds(x);
        due("wide states", x.wideStates(), GrammarTables.LARGE);
        Grammars.write(x, 0, 2, 0);
        dueRead("0 2 0", x, 1 + 1 + 2 * 6 + 3, 4, 0);
        Grammars.write(x, 0, 2, 1, 2);
        dueRead("0 2 1 2", x, 3 + 1 + 2 * 7 + 3 + 4 * 6, 5, 4, 2);
        Grammars.write(x, 0, 0, 1, 2, 1, 0);
        dueRead("0 0 1 2 1 0", x, 1 + 1 + 2 * (7 + 1 + 2 * (4 + 1 + 2 * 6 + 3)) + 3, 4, 3, 6, 0);
        Grammars.write(x, 0, 2, 2);
        dueUnread("0 2 2", x, 2);
    }
}

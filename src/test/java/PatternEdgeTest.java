import java.util.function.IntFunction;
import java.util.function.ToLongFunction;

/** The sentences on patterns that name an edge: promises 1 to 6 and 13, and what the terms say of them. */
public final class PatternEdgeTest {
    private static final Check CHECK = new Check();
    private static final int BAD_ARG = GrammarTables.BAD_ARG;
    private static final int FULL = GrammarTables.FULL;
    private static final int TOO_FEW = GrammarTables.TOO_FEW;
    private static final int NONE = GrammarTables.NONE;

    public static void main(String[] args) {
        newHasNoPattern();
        newHasNoText();
        newHasNoRule();
        newHasAnEmptyStack();
        newHasAnEmptyRight();
        leafByOp();
        leafOutOfRange();
        leafSixtyMade();
        leafStackOfEight();
        leafInOrder();
        leafAnswers();
        whatCountsAsMade();
        repeatByOp();
        repeatOutOfRange();
        repeatSixtyMade();
        repeatTooFew();
        repeatInOrder();
        repeatAnswers();
        joinByOp();
        joinOutOfRange();
        joinSixtyMade();
        joinAtMostSix();
        joinTooFew();
        joinTooFewBeforeSix();
        joinInOrder();
        joinAnswers();
        kindTakesTheTop();
        kindOutOfRange();
        kindTooFew();
        kindAnswers();
        patternlessKinds();
        patternlessStack();
        patternlessMade();
        patternlessLeavesTheRest();
        automatonLeastAndGreatest();
        automatonOutOfRange();
        CHECK.end();
    }

    private static void due(String call, long got, long want) {
        CHECK.due(call, got, want);
    }

    private static void refused(Edge at, String call, ToLongFunction<GrammarTables> asked, int code) {
        at.leftAlone(CHECK, call, asked, code);
    }

    /** One beyond the range on either side, and far beyond it. */
    private static void refusedBeyond(Edge at, int least, int most, IntFunction<ToLongFunction<GrammarTables>> asked) {
        refused(at, "with " + (least - 1), asked.apply(least - 1), BAD_ARG);
        refused(at, "with " + (most + 1), asked.apply(most + 1), BAD_ARG);
        for (int far : Edge.FAR) {
            due("with " + far, asked.apply(far).applyAsLong(at.make()), BAD_ARG);
        }
    }

    /** The length of the first token of the letters when kind 1 alone has a pattern, the top one; 0 if there is none. */
    private static int firstLength(GrammarTables x, int... letters) {
        Grammars.write(x, letters);
        int length = x.lengthOf(0);
        return length == NONE ? 0 : length;
    }

    // ---- promise 1

    private static void newHasNoPattern() {
        CHECK.says("Promise 1: No pattern");
        GrammarTables x = new GrammarTables();
        for (int k = 0; k < 3; k++) {
            due("automaton " + k, x.automaton(k), 1);
        }
        for (int l = 0; l < 3; l++) {
            Grammars.write(x, l);
            due("tokens of " + l, x.tokens(), 0);
            due("wrongAt of " + l, x.wrongAt(), 0);
        }
        due("sixty can be made", makeUntilFull(x), 60);
    }

    private static void newHasNoText() {
        CHECK.says("Promise 1: No .. text");
        GrammarTables x = new GrammarTables();
        due("tokens", x.tokens(), 0);
        due("wrongAt", x.wrongAt(), NONE);
        due("kindOf", x.kindOf(0), NONE);
        due("lengthOf", x.lengthOf(0), NONE);
        due("the first letter", x.letter(0), 1);
    }

    private static void newHasNoRule() {
        CHECK.says("Promise 1: No .. rule");
        GrammarTables x = new GrammarTables();
        CHECK.due("useful(0)", x.useful(0), false);
        due("states", x.states(), NONE);
        due("wideStates", x.wideStates(), NONE);
        due("grade", x.grade(), NONE);
        CHECK.due("reads", x.reads(), false);
        due("stopsAt", x.stopsAt(), NONE);
        due("uses", x.uses(), NONE);
        due("used(0)", x.used(0), NONE);
        due("value", x.value(), 0);
        due("unrule", x.unrule(), NONE);
        due("the first rule", x.rule(3), 0);
    }

    private static void newHasAnEmptyStack() {
        CHECK.says("Promise 1: the stack .. empty");
        due("kind", new GrammarTables().kind(0), TOO_FEW);
        due("repeat", new GrammarTables().repeat(0), TOO_FEW);
        due("join", new GrammarTables().join(0), TOO_FEW);
        due("leaf", new GrammarTables().leaf(0), 1);
    }

    private static void newHasAnEmptyRight() {
        CHECK.says("Promise 1: the right being made .. empty");
        due("symbol", new GrammarTables().symbol(0), 1);
        GrammarTables x = new GrammarTables();
        x.rule(3);
        due("begins by a rule of it", x.begins(3), 8);
    }

    // ---- promise 2

    private static void leafByOp() {
        CHECK.says("Promise 2: Pushes, by op, 0 to 2: letter op, 3: any, 4: empty");
        int[][] matched = {{1, 0, 0}, {0, 1, 0}, {0, 0, 1}, {1, 1, 1}, {0, 0, 0}};
        int[] automata = {3, 3, 3, 3, 2};
        for (int op = 0; op <= 4; op++) {
            GrammarTables x = new GrammarTables();
            x.leaf(op);
            x.kind(1);
            for (int l = 0; l < 3; l++) {
                due("leaf " + op + " on " + l, firstLength(x, l, l), matched[op][l]);
            }
            due("automaton of leaf " + op, x.automaton(1), automata[op]);
        }
        // empty where any stood before: nothing of that is left when it is joined
        GrammarTables x = new GrammarTables();
        x.leaf(0);
        x.leaf(3);
        x.repeat(0);
        x.kind(0);
        x.patternless();
        x.leaf(0);
        x.leaf(4);
        x.join(0);
        x.leaf(1);
        x.join(0);
        x.kind(1);
        due("0 empty 1 on 0 1", firstLength(x, 0, 1), 2);
        due("0 empty 1 on 0 2", firstLength(x, 0, 2), 0);
        due("0 empty 1 on 0 0", firstLength(x, 0, 0), 0);
    }

    private static void leafOutOfRange() {
        CHECK.says("Promise 2: op not 0 to 4 answers BAD_ARG");
        refusedBeyond(Edge.NONE, 0, 4, op -> x -> x.leaf(op));
        due("with 0", Edge.NONE.make().leaf(0), 3);
        due("with 4", Edge.NONE.make().leaf(4), 3);
    }

    private static void leafSixtyMade() {
        CHECK.says("Promise 2: 60 patterns were made since the last call of patternless .. answers FULL");
        for (int onStack = 0; onStack < 8; onStack++) {
            due("59 made, " + onStack + " on the stack", Edge.patterns(59, onStack).make().leaf(0), onStack + 1);
            refused(Edge.patterns(60, onStack), "leaf(0)", x -> x.leaf(0), FULL);
        }
        refused(Edge.patterns(60, 7), "leaf(4)", x -> x.leaf(4), FULL);
        GrammarTables x = Edge.patterns(60, 3).make();
        x.patternless();
        due("made since patternless", makeUntilFull(x), 60);
    }

    private static void leafStackOfEight() {
        CHECK.says("Promise 2: or the stack holds 8, answers FULL");
        for (int made = 8; made <= 59; made += 17) {
            due("7 of " + made, Edge.patterns(made, 7).make().leaf(1), 8);
            refused(Edge.patterns(made, 8), "leaf(1)", x -> x.leaf(1), FULL);
            refused(Edge.patterns(made, 8), "leaf(4)", x -> x.leaf(4), FULL);
        }
        GrammarTables x = Edge.patterns(8, 8).make();
        x.kind(0);
        due("one taken off", x.leaf(1), 8);
        due("full again", x.leaf(1), FULL);
        x.join(1);
        due("two joined", x.leaf(1), 8);
    }

    private static void leafInOrder() {
        CHECK.says("Promise 2: Tested in this order: BAD_ARG; FULL");
        Edge[] full = {Edge.patterns(60, 0), Edge.patterns(8, 8), Edge.patterns(60, 8)};
        for (Edge at : full) {
            refused(at, "leaf(-1)", x -> x.leaf(-1), BAD_ARG);
            refused(at, "leaf(5)", x -> x.leaf(5), BAD_ARG);
        }
    }

    private static void leafAnswers() {
        CHECK.says("Promise 2: Otherwise the number on the stack");
        GrammarTables x = new GrammarTables();
        for (int n = 1; n <= 8; n++) {
            due("leaf " + n, x.leaf(n % 5), n);
        }
    }

    /** How many patterns can be made, on an object with an empty stack. */
    private static int makeUntilFull(GrammarTables x) {
        int count = 0;
        while (count < 100 && x.leaf(4) != FULL) {
            x.kind(2);
            count++;
        }
        return count;
    }

    private static void whatCountsAsMade() {
        CHECK.says("Promises 2 to 4: 60 patterns (leaf, repeat and join make one each, kind and refused calls none)");
        GrammarTables x = new GrammarTables();
        for (int n = 0; n < 15; n++) {
            due("leaf X " + n, x.leaf(0), 1);
            due("join refused " + n, x.join(0), TOO_FEW);
            due("leaf Y " + n, x.leaf(1), 2);
            due("repeat refused " + n, x.repeat(3), BAD_ARG);
            due("repeat " + n, x.repeat(0), 2);
            due("leaf refused " + n, x.leaf(5), BAD_ARG);
            due("join " + n, x.join(1), 1);
            due("kind " + n, x.kind(n % 3), 0);
            due("kind refused " + n, x.kind(0), TOO_FEW);
        }
        due("leaf 61", x.leaf(0), FULL);
        GrammarTables y = Edge.patterns(59, 8).make();
        due("full by the stack", y.leaf(0), FULL);
        due("so pattern 60 is still to be made", y.repeat(0), 8);
        due("pattern 61", y.repeat(0), FULL);
    }

    // ---- promise 3

    private static GrammarTables repeated(int op, int of) {
        GrammarTables x = new GrammarTables();
        x.leaf(of);
        x.repeat(op);
        x.kind(1);
        return x;
    }

    private static void repeatByOp() {
        CHECK.says("Promise 3: Puts X star (op 0), X plus (1) or X or not (2) in place of the top X");
        int[] lengths = {3, 3, 1};
        int[] ofLetter = {2, 3, 3};
        int[] ofEmpty = {2, 2, 2};
        for (int op = 0; op <= 2; op++) {
            GrammarTables x = repeated(op, 2);
            due("no time under " + op, firstLength(x, 0), 0);
            due("once under " + op, firstLength(x, 2, 0), 1);
            due("three times under " + op, firstLength(x, 2, 2, 2), lengths[op]);
            due("automaton under " + op, x.automaton(1), ofLetter[op]);
            due("automaton of empty under " + op, repeated(op, 4).automaton(1), ofEmpty[op]);
            GrammarTables y = new GrammarTables();
            y.leaf(0);
            y.leaf(1);
            y.repeat(op);
            y.kind(0);
            y.kind(1);
            due("the one below under " + op, firstLength(y, 0, 0), 1);
        }
    }

    private static void repeatOutOfRange() {
        CHECK.says("Promise 3: op not 0 to 2 answers BAD_ARG");
        refusedBeyond(Edge.NONE, 0, 2, op -> x -> x.repeat(op));
        due("with 0", Edge.NONE.make().repeat(0), 2);
        due("with 2", Edge.NONE.make().repeat(2), 2);
    }

    private static void repeatSixtyMade() {
        CHECK.says("Promise 3: 60 patterns answers FULL");
        for (int onStack = 1; onStack <= 8; onStack++) {
            due("59 made, " + onStack + " on the stack", Edge.patterns(59, onStack).make().repeat(0), onStack);
            refused(Edge.patterns(60, onStack), "repeat(0)", x -> x.repeat(0), FULL);
            refused(Edge.patterns(60, onStack), "repeat(2)", x -> x.repeat(2), FULL);
        }
    }

    private static void repeatTooFew() {
        CHECK.says("Promise 3: TOO_FEW");
        for (int op = 0; op <= 2; op++) {
            int asked = op;
            refused(Edge.patterns(0, 0), "repeat " + op, x -> x.repeat(asked), TOO_FEW);
            refused(Edge.patterns(59, 0), "repeat " + op, x -> x.repeat(asked), TOO_FEW);
            due("on one, repeat " + op, Edge.patterns(1, 1).make().repeat(op), 1);
        }
    }

    private static void repeatInOrder() {
        CHECK.says("Promise 3: Tested in this order: BAD_ARG; FULL; TOO_FEW");
        int[] bad = {-1, 3};
        for (int op : bad) {
            refused(Edge.patterns(60, 0), "repeat " + op, x -> x.repeat(op), BAD_ARG);
            refused(Edge.patterns(60, 1), "repeat " + op, x -> x.repeat(op), BAD_ARG);
            refused(Edge.patterns(0, 0), "repeat " + op, x -> x.repeat(op), BAD_ARG);
        }
        refused(Edge.patterns(60, 0), "repeat(1)", x -> x.repeat(1), FULL);
    }

    private static void repeatAnswers() {
        CHECK.says("Promise 3: Otherwise the number on the stack");
        for (int onStack = 1; onStack <= 8; onStack++) {
            for (int op = 0; op <= 2; op++) {
                due(onStack + " on the stack", Edge.patterns(8, onStack).make().repeat(op), onStack);
            }
        }
    }

    // ---- promise 4

    private static void joinByOp() {
        CHECK.says("Promise 4: Takes X and Y off (Y the top) and pushes X Y (op 0) or X or Y (1)");
        GrammarTables x = new GrammarTables();
        x.leaf(2);
        x.leaf(0);
        x.leaf(1);
        due("0 1", x.join(0), 2);
        x.kind(1);
        due("0 1 on 0 1", firstLength(x, 0, 1, 0, 1), 2);
        due("0 1 on 1 0", firstLength(x, 1, 0), 0);
        due("0 1 on 0", firstLength(x, 0), 0);
        x.kind(1);
        due("the one below", firstLength(x, 2, 2), 1);
        x.leaf(0);
        x.leaf(1);
        due("0 or 1", x.join(1), 1);
        x.kind(1);
        due("0 or 1 on 0 1", firstLength(x, 0, 1), 1);
        due("0 or 1 on 1 0", firstLength(x, 1, 0), 1);
        due("0 or 1 on 2", firstLength(x, 2), 0);
        joinEmptyOnes();
        joinLongY();
    }

    /** X and Y, each 0 or 1, or not, by the bits of empties. */
    private static GrammarTables joinedMaybe(int op, int empties) {
        GrammarTables x = new GrammarTables();
        for (int n = 0; n < 2; n++) {
            x.leaf(n);
            if ((empties >> n & 1) == 1) {
                x.repeat(2);
            }
        }
        x.join(op);
        x.kind(1);
        return x;
    }

    private static void joinEmptyOnes() {
        for (int empties = 0; empties < 4; empties++) {
            GrammarTables x = joinedMaybe(0, empties);
            due("in order, 0 1, " + empties, firstLength(x, 0, 1), 2);
            due("in order, 0, " + empties, firstLength(x, 0), empties >> 1);
            due("in order, 1, " + empties, firstLength(x, 1), empties & 1);
            due("in order, automaton of " + empties, x.automaton(1), 4);
            GrammarTables y = joinedMaybe(1, empties);
            due("either, 0 1, " + empties, firstLength(y, 0, 1), 1);
            due("either, 1 0, " + empties, firstLength(y, 1, 0), 1);
            due("either, automaton of " + empties, y.automaton(1), 3);
        }
    }

    // 0 and then 1 2, repeated: Y goes through its own places behind those of X.
    private static void joinLongY() {
        int[] automata = {4, 5, 5};
        int[] lengths = {5, 5, 3};
        for (int op = 0; op <= 2; op++) {
            GrammarTables x = new GrammarTables();
            x.leaf(0);
            x.leaf(1);
            x.leaf(2);
            x.join(0);
            x.repeat(op);
            x.join(0);
            x.kind(1);
            due("0 and then 1 2 repeated by " + op, firstLength(x, 0, 1, 2, 1, 2), lengths[op]);
            due("0 1 under " + op, firstLength(x, 0, 1), op == 1 ? 0 : 1);
            due("its automaton under " + op, x.automaton(1), automata[op]);
        }
        GrammarTables x = new GrammarTables();
        int[] word = {0, 1, 2, 0, 2, 1};
        for (int l : word) {
            x.leaf(l);
        }
        for (int n = 0; n < 5; n++) {
            x.join(0);
        }
        x.kind(1);
        due("six joined from the end", firstLength(x, word), 6);
        due("their automaton", x.automaton(1), 8);
    }

    private static void joinOutOfRange() {
        CHECK.says("Promise 4: op not 0 or 1 answers BAD_ARG");
        refusedBeyond(Edge.NONE, 0, 1, op -> x -> x.join(op));
        due("with 0", Edge.NONE.make().join(0), 1);
        due("with 1", Edge.NONE.make().join(1), 1);
    }

    private static void joinSixtyMade() {
        CHECK.says("Promise 4: 60 patterns .. answers FULL");
        for (int onStack = 2; onStack <= 8; onStack++) {
            due("59 made, " + onStack + " on the stack", Edge.patterns(59, onStack).make().join(1), onStack - 1);
            refused(Edge.patterns(60, onStack), "join(0)", x -> x.join(0), FULL);
            refused(Edge.patterns(60, onStack), "join(1)", x -> x.join(1), FULL);
        }
    }

    /** A pattern in which letter and any stand so many times, in turn. */
    private static void push(GrammarTables x, int spots) {
        x.leaf(spots == 0 ? 4 : 0);
        for (int n = 1; n < spots; n++) {
            x.leaf(n % 2 == 0 ? 0 : 3);
            x.join(n % 3 == 0 ? 1 : 0);
        }
    }

    private static void joinAtMostSix() {
        CHECK.says("Promise 4: letter and any would stand in it more than 6 times, answers FULL");
        for (int ofX = 0; ofX <= 6; ofX++) {
            for (int ofY = 0; ofY <= 6; ofY++) {
                for (int op = 0; op <= 1; op++) {
                    GrammarTables x = new GrammarTables();
                    push(x, ofX);
                    push(x, ofY);
                    due("join " + op + " of " + ofX + " and " + ofY, x.join(op), ofX + ofY > 6 ? FULL : 1);
                    due("left of " + ofX + " and " + ofY, x.kind(0), ofX + ofY > 6 ? 1 : 0);
                }
            }
        }
        CHECK.says("In a pattern letter and any stand at most 6 times, all together");
        dueSpots("six letters", 1, 0, 1, 2, 0, 1, 2);
        dueSpots("six any", 1, 3, 3, 3, 3, 3, 3);
        dueSpots("letters and any", 1, 3, 0, 3, 1, 3, 2);
        dueSpots("six and empty ones", 1, 4, 3, 0, 4, 3, 1, 3, 2);
        dueSpots("seven letters", FULL, 0, 0, 0, 0, 0, 0, 0);
        dueSpots("seven any", FULL, 3, 3, 3, 3, 3, 3, 3);
        dueSpots("seven of both", FULL, 3, 0, 3, 1, 3, 2, 3);
        refusedJoinTakesNothing();
        repeatedCountsOnce();
    }

    private static void dueSpots(String name, int due, int... leaves) {
        for (int op = 0; op <= 1; op++) {
            GrammarTables x = new GrammarTables();
            for (int leaf : leaves) {
                x.leaf(leaf);
            }
            int answer = 0;
            for (int n = 1; n < leaves.length; n++) {
                answer = x.join(op);
            }
            due(name + " joined by " + op, answer, due);
        }
    }

    private static void refusedJoinTakesNothing() {
        for (int op = 0; op <= 1; op++) {
            GrammarTables x = new GrammarTables();
            push(x, 6);
            x.leaf(2);
            due("six and one", x.join(op), FULL);
            due("Y is still the top", x.kind(1), 1);
            due("Y is as it was", firstLength(x, 2, 2), 1);
            due("X is below", x.kind(1), 0);
            due("X is as it was", firstLength(x, 0, 2, 0, 2, 0, 2), lengthOfSix());
            // six take eleven patterns, and the leaf is the twelfth
            GrammarTables y = new GrammarTables();
            push(y, 6);
            y.leaf(2);
            for (int n = 0; n < 50; n++) {
                due("six and one, again", y.join(op), FULL);
            }
            for (int made = 13; made <= 60; made++) {
                due("pattern " + made, y.repeat(2), 2);
            }
            due("pattern 61", y.repeat(2), FULL);
        }
    }

    private static int lengthOfSix() {
        GrammarTables x = new GrammarTables();
        push(x, 6);
        x.kind(1);
        return firstLength(x, 0, 2, 0, 2, 0, 2);
    }

    private static void repeatedCountsOnce() {
        for (int op = 0; op <= 2; op++) {
            GrammarTables x = new GrammarTables();
            push(x, 3);
            x.repeat(op);
            push(x, 3);
            x.repeat(op);
            due("twice three repeated by " + op, x.join(0), 1);
            x.leaf(3);
            due("and one more", x.join(1), FULL);
        }
    }

    private static void joinTooFew() {
        CHECK.says("Promise 4: fewer than two answers TOO_FEW");
        int[] made = {1, 30, 59};
        for (int op = 0; op <= 1; op++) {
            int asked = op;
            refused(Edge.patterns(0, 0), "join " + op, x -> x.join(asked), TOO_FEW);
            for (int m : made) {
                refused(Edge.patterns(m, 0), "join " + op, x -> x.join(asked), TOO_FEW);
                refused(Edge.patterns(m, 1), "join " + op, x -> x.join(asked), TOO_FEW);
            }
            due("on two, join " + op, Edge.patterns(2, 2).make().join(op), 1);
        }
    }

    private static void joinTooFewBeforeSix() {
        CHECK.says("Promise 4: TOO_FEW, before the 6 are tested");
        for (int op = 0; op <= 1; op++) {
            GrammarTables x = new GrammarTables();
            push(x, 6);
            due("one of six, join " + op, x.join(op), TOO_FEW);
            // what was on the stack before must not count beside the one that is left
            GrammarTables y = new GrammarTables();
            push(y, 6);
            push(y, 6);
            due("six and six, join " + op, y.join(op), FULL);
            y.kind(0);
            due("six alone, join " + op, y.join(op), TOO_FEW);
            y.kind(0);
            due("none, join " + op, y.join(op), TOO_FEW);
        }
    }

    private static void joinInOrder() {
        CHECK.says("Promise 4: Tested in this order: BAD_ARG; 60 patterns FULL; TOO_FEW; the 6 FULL");
        int[] bad = {-1, 2};
        for (int op : bad) {
            refused(Edge.patterns(60, 0), "join " + op, x -> x.join(op), BAD_ARG);
            refused(Edge.patterns(60, 1), "join " + op, x -> x.join(op), BAD_ARG);
            refused(Edge.patterns(60, 2), "join " + op, x -> x.join(op), BAD_ARG);
            refused(Edge.patterns(0, 0), "join " + op, x -> x.join(op), BAD_ARG);
            GrammarTables x = new GrammarTables();
            push(x, 6);
            x.leaf(0);
            due("seven, join " + op, x.join(op), BAD_ARG);
        }
        for (int op = 0; op <= 1; op++) {
            int asked = op;
            refused(Edge.patterns(60, 0), "join " + op, x -> x.join(asked), FULL);
            refused(Edge.patterns(60, 1), "join " + op, x -> x.join(asked), FULL);
        }
    }

    private static void joinAnswers() {
        CHECK.says("Promise 4: Otherwise the number on the stack");
        GrammarTables x = new GrammarTables();
        for (int n = 0; n < 8; n++) {
            x.leaf(n < 6 ? n % 4 : 4);
        }
        for (int left = 7; left >= 1; left--) {
            due("join to " + left, x.join(left % 2), left);
        }
    }

    // ---- promise 5

    private static void kindTakesTheTop() {
        CHECK.says("Promise 5: The top becomes the pattern of kind k and is taken off");
        for (int k = 0; k < 3; k++) {
            GrammarTables x = new GrammarTables();
            x.leaf(0);
            x.leaf(1);
            x.kind(k);
            due("the top", firstLength(x, 1), 1);
            due("its kind", x.kindOf(0), k);
            due("not the one below", firstLength(x, 0), 0);
            for (int other = 0; other < 3; other++) {
                due("automaton " + other, x.automaton(other), other == k ? 3 : 1);
            }
            x.repeat(0);
            due("a change of the stack", firstLength(x, 1, 1), 1);
            x.kind(k);
            due("the one below, in its place", firstLength(x, 0, 0), 2);
            due("not the former one", firstLength(x, 1), 0);
        }
    }

    private static void kindOutOfRange() {
        CHECK.says("Promise 5: BAD_ARG if k is not 0 to 2");
        refusedBeyond(Edge.NONE, 0, 2, k -> x -> x.kind(k));
        due("with 0", Edge.NONE.make().kind(0), 1);
        due("with 2", Edge.NONE.make().kind(2), 1);
        refusedBeyond(Edge.patterns(60, 8), 0, 2, k -> x -> x.kind(k));
        CHECK.says("Promise 5: BAD_ARG .. ; TOO_FEW, in this order");
        refusedBeyond(Edge.patterns(5, 0), 0, 2, k -> x -> x.kind(k));
    }

    private static void kindTooFew() {
        CHECK.says("Promise 5: TOO_FEW");
        int[] made = {0, 3, 60};
        for (int m : made) {
            for (int k = 0; k < 3; k++) {
                int asked = k;
                refused(Edge.patterns(m, 0), "kind " + k, x -> x.kind(asked), TOO_FEW);
            }
        }
    }

    private static void kindAnswers() {
        CHECK.says("Promise 5: Otherwise the number on the stack");
        int[] made = {8, 60};
        for (int m : made) {
            GrammarTables x = Edge.patterns(m, 8).make();
            for (int left = 7; left >= 0; left--) {
                due("kind to " + left + " of " + m, x.kind(left % 3), left);
            }
            due("none left of " + m, x.kind(0), TOO_FEW);
        }
    }

    // ---- promise 6

    private static void patternlessKinds() {
        CHECK.says("Promise 6: No kind has a pattern");
        for (int k = 0; k < 3; k++) {
            GrammarTables x = new GrammarTables();
            x.leaf(3);
            x.repeat(0);
            x.leaf(0);
            x.join(0);
            x.kind(k);
            due("automaton before, of " + k, x.automaton(k), 2);
            x.letter(0);
            x.patternless();
            due("automaton of " + k, x.automaton(k), 1);
            due("tokens", x.tokens(), 0);
            due("the text stays", x.wrongAt(), 0);
            due("the text stays at its length", x.letter(0), 2);
            x.leaf(0);
            x.repeat(0);
            x.kind(k);
            due("automaton of 0 star, before", x.automaton(k), 2);
            x.patternless();
            due("not even the empty word is left", x.automaton(k), 1);
        }
        CHECK.says("each with a pattern (or none, that matches nothing)");
        GrammarTables x = new GrammarTables();
        x.leaf(4);
        x.kind(1);
        due("empty is a pattern", x.automaton(1), 2);
        due("none matches not even the empty word", x.automaton(0), 1);
    }

    private static void patternlessStack() {
        CHECK.says("Promise 6: the stack is empty");
        for (int onStack = 0; onStack <= 8; onStack++) {
            GrammarTables x = Edge.patterns(8, onStack).make();
            x.patternless();
            due("kind after " + onStack, x.kind(0), TOO_FEW);
            due("repeat after " + onStack, x.repeat(0), TOO_FEW);
            due("join after " + onStack, x.join(0), TOO_FEW);
            for (int n = 1; n <= 8; n++) {
                due("leaf " + n + " after " + onStack, x.leaf(0), n);
            }
            due("leaf 9 after " + onStack, x.leaf(0), FULL);
        }
    }

    private static void patternlessMade() {
        CHECK.says("Promise 6: no pattern counts as made");
        int[] made = {0, 1, 59, 60};
        for (int m : made) {
            GrammarTables x = Edge.patterns(m, 0).make();
            x.patternless();
            due("can be made after " + m, makeUntilFull(x), 60);
            x.patternless();
            due("can be made once more", makeUntilFull(x), 60);
        }
    }

    private static void patternlessLeavesTheRest() {
        CHECK.says("Promise 6: (the text, the rules and the right being made stay)");
        GrammarTables x = Edge.FULL.make();
        x.patternless();
        due("letter 25", x.letter(0), FULL);
        due("symbol 5", x.symbol(0), FULL);
        due("rule 10", x.rule(3), FULL);
        Grammars.plainKinds(x);
        for (int n = 0; n < 24; n++) {
            due("letter at " + n, x.kindOf(n), n % 3);
        }
        CHECK.due("reads", x.reads(), true);
        due("rules left", x.unrule(), 8);
        GrammarTables y = Edge.NONE.make();
        y.patternless();
        due("letter 7", y.letter(0), 7);
        due("symbol 3", y.symbol(0), 3);
        due("rule 6", y.rule(3), 5);
    }

    // ---- promise 13

    private static void automatonLeastAndGreatest() {
        CHECK.says("Promise 13: the number of different sets { w : kind k matches u followed by w }, over all words u");
        GrammarTables x = new GrammarTables();
        due("no pattern: the empty set alone", x.automaton(0), 1);
        x.leaf(3);
        x.repeat(0);
        x.kind(1);
        due("all words: one set alone", x.automaton(1), 1);
        x.leaf(4);
        x.kind(2);
        due("the empty word", x.automaton(2), 2);
        // 1 plus and five times any, plus: each set of the six places, and the begin
        x.leaf(1);
        x.repeat(1);
        for (int n = 0; n < 5; n++) {
            x.leaf(3);
            x.join(0);
        }
        x.repeat(1);
        x.kind(0);
        due("the most that six places give", x.automaton(0), 65);
        CHECK.says("Promise 13: a complete deterministic automaton");
        x.leaf(0);
        x.kind(0);
        due("letter 0: begin, end, and what matches no more", x.automaton(0), 3);
        x.leaf(3);
        x.leaf(0);
        x.join(1);
        x.kind(0);
        due("any or letter 0 matches as any", x.automaton(0), 3);
    }

    private static void automatonOutOfRange() {
        CHECK.says("Promise 13: BAD_ARG if k is not 0 to 2");
        refusedBeyond(Edge.NONE, 0, 2, k -> x -> x.automaton(k));
        refusedBeyond(Edge.EMPTY, 0, 2, k -> x -> x.automaton(k));
        for (int k = 0; k < 3; k++) {
            int asked = k;
            Edge.NONE.leftAlone(CHECK, "automaton " + k, x -> x.automaton(asked), 3);
        }
    }
}

import java.util.function.ToLongFunction;

/** The sentences on reading that name an edge: promises 23 to 27, and what is said of every call. */
public final class ReadEdgeTest {
    private static final Check CHECK = new Check();
    private static final int NONE = GrammarTables.NONE;
    private static final int LARGE = GrammarTables.LARGE;

    // A token 0 brings 22 uses, a token 1 one use, and the begin one.
    private static final String MANY_USES = "3304 331 3 45555 56666 6";

    public static void main(String[] args) {
        readsNotWrong();
        readsASentence();
        readsByGrade();
        readsAtTheLimits();
        stopsAtTheFirst();
        stopsAtTheNumberOfTokens();
        stopsAtNone();
        usesLeast();
        usesNone();
        usedInOrder();
        usedNone();
        usedBeyondTheUses();
        usedAbove199();
        valueOfParts();
        valueWraps();
        valueZero();
        questionsChangeNothing();
        call512();
        neverThrows();
        CHECK.end();
    }

    private static void due(String call, long got, long want) {
        CHECK.due(call, got, want);
    }

    /** An object with plain kinds that has read nothing yet. */
    private static GrammarTables plain(String rules, int... letters) {
        GrammarTables x = Grammars.load(Grammars.rules(rules));
        Grammars.plainKinds(x);
        Grammars.write(x, letters);
        return x;
    }

    private static int[] times(int count, int... letters) {
        int[] all = new int[count * letters.length];
        for (int n = 0; n < all.length; n++) {
            all[n] = letters[n % letters.length];
        }
        return all;
    }

    private static int[] chain(int[] first, int... second) {
        int[] all = new int[first.length + second.length];
        System.arraycopy(first, 0, all, 0, first.length);
        System.arraycopy(second, 0, all, first.length, second.length);
        return all;
    }

    /** A way in which a text is not read. */
    record Unread(String name, int grade, String rules, int... letters) {
        GrammarTables make() {
            return plain(rules, letters);
        }
    }

    /** From grade 4 on the text is a sentence. */
    private static final Unread[] UNREAD = {
        new Unread("no sentence", 1, "330 30", 0, 1),
        new Unread("a part of a sentence", 0, "3012", 0, 1),
        new Unread("more than a sentence", 0, "3012", 0, 1, 2, 0),
        new Unread("no letters", 0, "30"),
        new Unread("a useless rule's right", 0, "30 314 44", 1),
        new Unread("no useful rule", NONE, "303", 0),
        new Unread("no useful rule, no letters", NONE, "4"),
        new Unread("grade 4", 4, "3303 31", 1),
        new Unread("grade 4, no letters", 4, "3 3"),
        new Unread("61 states", LARGE, "356 42154 52221 6252 51524 613 55154 41552 346", 2, 2, 2, 1, 2, 2, 2, 2, 1, 2),
        new Unread("81 wide states, else grade 3", LARGE, "3040 31502 3051 31410 42 533 55644 50522 52", 0, 2, 0),
        new Unread("81 wide states, else grade 4", LARGE, "3040 315 30511 31412 42 52 43443", 0, 2, 0),
    };

    // ---- promise 23

    private static void readsNotWrong() {
        CHECK.says("Promise 23: Whether the text is not wrong");
        GrammarTables x = Grammars.load(Grammars.rules("330 3"));
        x.leaf(0);
        x.kind(0);
        CHECK.due("no letters", x.reads(), true);
        x.letter(0);
        CHECK.due("one token", x.reads(), true);
        x.letter(1);
        CHECK.due("wrong behind a sentence", x.reads(), false);
        x.letter(0);
        CHECK.due("wrong inside", x.reads(), false);
        Grammars.write(x, 1);
        CHECK.due("wrong at the begin, behind the empty sentence", x.reads(), false);
        Grammars.write(x, times(24, 0));
        CHECK.due("24 tokens", x.reads(), true);
        Grammars.write(x, chain(times(23, 0), 1));
        CHECK.due("wrong at the last place", x.reads(), false);
    }

    private static void readsASentence() {
        CHECK.says("Promise 23: and the kinds of its tokens are a sentence");
        CHECK.due("no letters, the empty sentence", plain("3").reads(), true);
        CHECK.due("no letters, no empty sentence", plain("30").reads(), false);
        CHECK.due("the sentence", plain("3012", 0, 1, 2).reads(), true);
        CHECK.due("less", plain("3012", 0, 1).reads(), false);
        CHECK.due("more", plain("3012", 0, 1, 2, 2).reads(), false);
        CHECK.due("another order", plain("3012", 1, 0, 2).reads(), false);
        CHECK.due("24 tokens", plain("3031 32", chain(chain(times(11, 0), 2), times(11, 1))).reads(), true);
        CHECK.due("one too many at the end", plain("3031 32", chain(chain(times(11, 0), 2), times(12, 1))).reads(),
            false);
        GrammarTables x = plain("30", 0);
        CHECK.due("a kind with a pattern", x.reads(), true);
        x.patternless();
        CHECK.due("no kind with a pattern", x.reads(), false);
    }

    private static void readsByGrade() {
        CHECK.says("Promise 23: false if grade is not 0 to 3");
        for (Unread unread : UNREAD) {
            CHECK.due(unread.name, unread.make().reads(), false);
            due(unread.name + ", its grade", unread.make().grade(), unread.grade);
        }
    }

    private static void dueReads(int grade, int states, int wideStates, GrammarTables x) {
        CHECK.due(states + " states, " + wideStates + " wide ones", x.reads(), true);
        due("its tokens", x.stopsAt(), x.tokens());
        due("its grade", x.grade(), grade);
        due("its states", x.states(), states);
        due("its wide states", x.wideStates(), wideStates);
    }

    private static void readsAtTheLimits() {
        CHECK.says("Promise 23: (where grade is 0 to 3, at the limits of the states too)");
        dueReads(0, 60, 80, plain("3023 40256 523 6021 42254 32262 624 6253 301", 0, 2, 0, 1));
        dueReads(3, 22, 80, plain("30445 3150 30513 31414 42 52 40213", 1, 2, 0));
        dueReads(3, 60, 69, plain("36143 41511 52212 61511 42460 34210 51451 41601 62212",
            1, 2, 2, 1, 2, 1, 1, 2, 1, 0));
        dueReads(0, 60, LARGE, plain("3053 40253 5233 6024 42254 32263 6436 62503 300", 0, 0));
        dueReads(2, 60, LARGE, plain("3050 40451 50032 62603 60243 4203 5201 5050 360", 0, 2, 0, 1, 0));
        dueReads(2, 24, LARGE, plain("3040 32500 30514 3141 42 52 403 51254 44063", 0, 2, 1, 2));
    }

    // ---- promise 24

    private static void stopsAtTheFirst() {
        CHECK.says("Promise 24: the first token such that no sentence begins with the kinds of the tokens up to it");
        due("the first", plain("3012", 1, 1, 2).stopsAt(), 0);
        due("the second", plain("3012", 0, 0, 2).stopsAt(), 1);
        due("the third", plain("3012", 0, 1, 1).stopsAt(), 2);
        due("behind the sentence", plain("3012", 0, 1, 2, 0).stopsAt(), 3);
        due("the first of two", plain("3012", 2, 2).stopsAt(), 0);
        due("the last of 24", plain("330 3", chain(times(23, 0), 1)).stopsAt(), 23);
        due("the empty sentence only", plain("3", 2).stopsAt(), 0);
        due("by a useless rule", plain("301 3024 44", 0, 2).stopsAt(), 1);
    }

    private static void stopsAtTheNumberOfTokens() {
        CHECK.says("Promise 24: or the number of tokens if there is none");
        due("no letters, the empty sentence", plain("3").stopsAt(), 0);
        due("no letters, no empty sentence", plain("30").stopsAt(), 0);
        due("a part of a sentence", plain("3012", 0, 1).stopsAt(), 2);
        due("a sentence", plain("3012", 0, 1, 2).stopsAt(), 3);
        due("24 tokens", plain("330 3", times(24, 0)).stopsAt(), 24);
        due("24 tokens, a part of a sentence", plain("3031 32", times(24, 0)).stopsAt(), 24);
        GrammarTables x = plain("330 3", 0, 0, 2, 0);
        x.patternless();
        x.leaf(0);
        x.kind(0);
        due("the tokens before the wrong place", x.stopsAt(), 2);
        Grammars.write(x, 2, 0);
        due("wrong at the begin", x.stopsAt(), 0);
    }

    private static void stopsAtNone() {
        CHECK.says("Promise 24: NONE if grade is not 0 to 3");
        for (Unread unread : UNREAD) {
            GrammarTables x = unread.make();
            boolean graded = unread.grade >= 0 && unread.grade <= 3;
            CHECK.due(unread.name, x.stopsAt() == NONE, !graded);
            x.textless();
            due(unread.name + ", without the text", x.stopsAt(), graded ? 0 : NONE);
        }
    }

    // ---- promise 25

    private static void usesLeast() {
        CHECK.says("Promise 25: The number of times that rules are used in the way from symbol 3 to the sentence");
        due("one empty right", plain("3").uses(), 1);
        due("one right of four", plain("30120", 0, 1, 2, 0).uses(), 1);
        due("each rule each time", plain("344 4", new int[0]).uses(), 3);
        for (int n = 0; n <= 24; n++) {
            due("one for each token", plain("330 3", times(n, 0)).uses(), n + 1);
            due("22 for each token", plain(MANY_USES, times(n, 0)).uses(), 22 * n + 1);
        }
    }

    private static void usesNone() {
        CHECK.says("Promise 25: NONE if reads is false");
        for (Unread unread : UNREAD) {
            due(unread.name, unread.make().uses(), NONE);
        }
        due("wrong", wrongBehindASentence().uses(), NONE);
    }

    private static GrammarTables wrongBehindASentence() {
        GrammarTables x = Grammars.load(Grammars.rules("330 3"));
        x.leaf(0);
        x.kind(0);
        Grammars.write(x, 0, 0, 1);
        return x;
    }

    // ---- promise 26

    private static void usedInOrder() {
        CHECK.says("Promise 26: used last but i when always the last variable is replaced (i = 0: the last one used)");
        // 3, 4 5, 4 6, 4 2, 1 2: the rules 0, 2, 3, 1
        GrammarTables x = plain("345 41 56 62", 1, 2);
        int[] last = {1, 3, 2, 0};
        for (int i = 0; i < 4; i++) {
            due("used " + i, x.used(i), last[i]);
        }
        due("the only one", plain("40 53 3").used(0), 2);
        due("rule 8", plain("40 41 42 50 51 52 60 61 3").used(0), 8);
    }

    private static void usedNone() {
        CHECK.says("Promise 26: NONE if reads is false");
        int[] asked = {-1, 0, 1, 199, 200};
        for (Unread unread : UNREAD) {
            GrammarTables x = unread.make();
            for (int i : asked) {
                due(unread.name + " at " + i, x.used(i), NONE);
            }
        }
        GrammarTables x = plain("330 3", 0, 0);
        due("read before", x.used(1), 0);
        x.letter(1);
        due("not read any more", x.used(1), NONE);
        due("wrong", wrongBehindASentence().used(0), NONE);
    }

    private static void usedBeyondTheUses() {
        CHECK.says("Promise 26: NONE if .. there is none");
        GrammarTables x = plain("330 3", 0, 0, 0, 0, 0);
        x.used(5);
        x.letter(1);
        x.textless();
        x.letter(0);
        x.letter(0);
        due("the last", x.used(0), 1);
        due("the first", x.used(2), 0);
        int[] beyond = {-1, 3, 4, 5, 6, 198, 199, 200, 201};
        for (int i : beyond) {
            due("used " + i + " of three", x.used(i), NONE);
        }
        for (int far : Edge.FAR) {
            due("used " + far, x.used(far), NONE);
        }
        GrammarTables y = plain(MANY_USES, times(9, 0));
        due("199 uses", y.uses(), 199);
        due("used 198 of them", y.used(198), 0);
        due("used 199 of them", y.used(199), NONE);
        due("used 200 of them", y.used(200), NONE);
    }

    private static void usedAbove199() {
        CHECK.says("Promise 26: NONE if .. i is above 199");
        GrammarTables x = plain(MANY_USES, chain(times(9, 0), 1));
        due("200 uses", x.uses(), 200);
        due("used 198 of them", x.used(198), 0);
        due("used 199 of them", x.used(199), 1);
        due("used 200 of them", x.used(200), NONE);
        x.letter(1);
        due("201 uses", x.uses(), 201);
        due("used 199 of 201", x.used(199), 1);
        due("used 200 of 201", x.used(200), NONE);
        GrammarTables y = plain(MANY_USES, times(24, 0));
        due("529 uses", y.uses(), 529);
        due("used 0 of 529", y.used(0), 2);
        // the begin, and then nine times 22: the tenth token begins with an empty 6
        due("used 198 of 529", y.used(198), 0);
        due("used 199 of 529", y.used(199), 5);
        int[] above = {200, 201, 255, 256, 527, 528, 529, 530};
        for (int i : above) {
            due("used " + i + " of 529", y.used(i), NONE);
        }
        for (int far : Edge.FAR) {
            if (far < 0 || far > 199) {
                due("used " + far + " of 529", y.used(far), NONE);
            }
        }
    }

    // ---- promise 27

    private static void valueOfParts() {
        CHECK.says("Promise 27: a token has its number of letters as its value");
        GrammarTables x = new GrammarTables();
        x.leaf(3);
        x.repeat(1);
        x.kind(1);
        Grammars.add(x, 3, 1);
        for (int n = 1; n <= 24; n++) {
            x.letter(n % 3);
            due("a token of " + n, x.value(), 1 + n);
        }
        CHECK.says("Promise 27: the sum of r + 1");
        for (int r = 0; r < 9; r++) {
            GrammarTables y = new GrammarTables();
            for (int n = 0; n < r; n++) {
                y.rule(4);
            }
            y.rule(3);
            due("by rule " + r, y.value(), r + 1);
        }
        CHECK.says("Promise 27: 1 times the value of the first, 2 times that of the second, and so on");
        // the values of 4, 5 and 6 are 2, 3 and 4
        due("the first", plain("34 4 5 6").value(), 1 + 2);
        due("two", plain("345 4 5 6").value(), 1 + 2 + 2 * 3);
        due("three", plain("3456 4 5 6").value(), 1 + 2 + 2 * 3 + 3 * 4);
        due("four", plain("34564 4 5 6").value(), 1 + 2 + 2 * 3 + 3 * 4 + 4 * 2);
        due("none", plain("3").value(), 1);
    }

    /** What the letters give by 5 becomes 0 5, 1 5, 2 4 4 5 or nothing, where 4, of rule 3, becomes nothing. */
    private static long valueOf(int... letters) {
        long value = 5;
        for (int n = letters.length - 1; n >= 0; n--) {
            value = switch (letters[n]) {
                case 0 -> 1 + 1 + 2 * value;
                case 1 -> 2 + 1 + 2 * value;
                default -> 3 + 1 + 2 * 4 + 3 * 4 + 4 * value;
            };
        }
        return value;
    }

    private static void dueValue(int top, long exact, int... letters) {
        StringBuilder rules = new StringBuilder("505 515 52445 4 5");
        for (int r = 5; r < top; r++) {
            rules.append(" 66");
        }
        due("the exact sum by rule " + top, top + 1 + valueOf(letters), exact);
        GrammarTables x = plain(rules + " 35", letters);
        CHECK.due("reads for " + exact, x.reads(), true);
        due("the sum " + exact, x.value(), (int) exact);
    }

    private static void valueWraps() {
        CHECK.says("Promise 27: the sum (wrapping)");
        int[] half = chain(times(12, 2), 0, 1, 0, 1);
        int[] whole = chain(times(13, 2), 0, 1, 0);
        dueValue(5, Integer.MAX_VALUE - 1L, half);
        dueValue(6, Integer.MAX_VALUE, half);
        dueValue(7, Integer.MAX_VALUE + 1L, half);
        dueValue(8, Integer.MAX_VALUE + 2L, half);
        dueValue(6, (1L << 32) - 1, whole);
        dueValue(7, 1L << 32, whole);
        dueValue(8, (1L << 32) + 1, whole);
        // times wraps as well: the value of 24 letters goes far over 32 bits
        for (int n = 16; n <= 24; n++) {
            dueValue(5, 6 + valueOf(times(n, 2)), times(n, 2));
        }
    }

    private static void valueZero() {
        CHECK.says("Promise 27: 0 if reads is false");
        for (Unread unread : UNREAD) {
            due(unread.name, unread.make().value(), 0);
        }
        due("wrong", wrongBehindASentence().value(), 0);
        GrammarTables x = plain("330 3", 0, 0);
        due("read before", x.value(), 1 + (1 + 2 + 2) + 2);
        x.letter(1);
        due("not read any more", x.value(), 0);
    }

    // ---- every call

    private static void questionsChangeNothing() {
        CHECK.says("Promises 23 to 27 ask, and a call that finds none changes nothing");
        dueLeft("reads()", x -> x.reads() ? 1 : 0, 1);
        dueLeft("stopsAt()", x -> x.stopsAt(), 6);
        dueLeft("uses()", x -> x.uses(), 13);
        dueLeft("used(0)", x -> x.used(0), 2);
        dueLeft("used(12)", x -> x.used(12), 0);
        dueLeft("used(13)", x -> x.used(13), NONE);
        dueLeft("used(-1)", x -> x.used(-1), NONE);
        dueLeft("used(200)", x -> x.used(200), NONE);
        dueLeft("value()", x -> x.value(), 533);
        Edge.EMPTY.leftAlone(CHECK, "reads()", x -> x.reads() ? 1 : 0, 0);
        Edge.EMPTY.leftAlone(CHECK, "stopsAt()", x -> x.stopsAt(), NONE);
        Edge.EMPTY.leftAlone(CHECK, "uses()", x -> x.uses(), NONE);
        Edge.EMPTY.leftAlone(CHECK, "used(0)", x -> x.used(0), NONE);
        Edge.EMPTY.leftAlone(CHECK, "value()", x -> x.value(), 0);
    }

    private static void dueLeft(String call, ToLongFunction<GrammarTables> asked, long due) {
        Edge.NONE.leftAlone(CHECK, call, asked, due);
    }

    private static void call512() {
        CHECK.says("An object is used for at most 512 calls after it has been made");
        GrammarTables x = new GrammarTables();
        due("call 1", x.leaf(0), 1);
        due("call 2", x.kind(0), 0);
        due("call 3", x.symbol(3), 1);
        due("call 4", x.symbol(0), 2);
        due("call 5", x.rule(3), 0);
        due("call 6", x.rule(3), 1);
        for (int n = 7; n <= 487; n += 3) {
            x.textless();
            due("call " + (n + 1), x.letter(0), 1);
            due("call " + (n + 2), x.value(), 1 + 2 + 2);
        }
        for (int n = 490; n <= 510; n += 2) {
            due("call " + n, x.letter(0), (n - 490) / 2 + 2);
            due("call " + (n + 1), x.uses(), (n - 490) / 2 + 3);
        }
        due("call 512", x.stopsAt(), 12);
    }

    private static void neverThrows() {
        CHECK.says("No call ever throws");
        Edge[] edges = {Edge.EMPTY, Edge.NONE, Edge.FULL, Edge.patterns(60, 0), Edge.text(24), Edge.grammar(0, 4)};
        for (Edge edge : edges) {
            for (int far : Edge.FAR) {
                CHECK.due("with " + far + " at " + edge, ends(edge.make(), far), true);
            }
            for (int near = -2; near <= 25; near++) {
                CHECK.due("with " + near + " at " + edge, ends(edge.make(), near), true);
            }
        }
        for (Unread unread : UNREAD) {
            for (int far : Edge.FAR) {
                CHECK.due("with " + far + " at " + unread.name, ends(unread.make(), far), true);
            }
        }
    }

    /** Every call, with the argument where it takes one. */
    private static boolean ends(GrammarTables x, int a) {
        try {
            for (int n = 0; n < 3; n++) {
                x.leaf(a);
                x.repeat(a);
                x.join(a);
                x.kind(a);
                x.letter(a);
                x.symbol(a);
                x.rule(a);
                ask(x, a);
                x.unrule();
                ask(x, a);
            }
            x.textless();
            ask(x, a);
            x.patternless();
            ask(x, a);
            return true;
        } catch (RuntimeException | Error thrown) {
            System.out.println(thrown);
            return false;
        }
    }

    private static void ask(GrammarTables x, int a) {
        x.tokens();
        x.kindOf(a);
        x.lengthOf(a);
        x.wrongAt();
        x.automaton(a);
        x.useful(a);
        x.begins(a);
        x.follows(a);
        x.states();
        x.wideStates();
        x.grade();
        x.reads();
        x.stopsAt();
        x.uses();
        x.used(a);
        x.value();
    }
}

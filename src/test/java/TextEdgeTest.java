import java.util.function.ToLongFunction;

/** The sentences on the text and its tokens that name an edge: promises 7 to 12, and what the terms say of them. */
public final class TextEdgeTest {
    private static final Check CHECK = new Check();
    private static final int BAD_ARG = GrammarTables.BAD_ARG;
    private static final int FULL = GrammarTables.FULL;
    private static final int NONE = GrammarTables.NONE;

    public static void main(String[] args) {
        letterAppends();
        letterOutOfRange();
        letterFull();
        letterInOrder();
        letterAnswers();
        textlessEmpties();
        longestWord();
        wordNotEmpty();
        leastKind();
        wrongThere();
        cutFromItsBegin();
        tokensUpToWrong();
        kindOfNone();
        lengthOfNone();
        wrongAtNone();
        questionsChangeNothing();
        CHECK.end();
    }

    private static void due(String call, long got, long want) {
        CHECK.due(call, got, want);
    }

    private static void refused(Edge at, String call, ToLongFunction<GrammarTables> asked, int code) {
        at.leftAlone(CHECK, call, asked, code);
    }

    private static GrammarTables plain() {
        GrammarTables x = new GrammarTables();
        Grammars.plainKinds(x);
        return x;
    }

    /** Kind k matches the letters in their order. */
    private static void spell(GrammarTables x, int k, int... letters) {
        for (int n = 0; n < letters.length; n++) {
            x.leaf(letters[n]);
            if (n > 0) {
                x.join(0);
            }
        }
        x.kind(k);
    }

    // ---- promises 7 and 8

    private static void letterAppends() {
        CHECK.says("Promise 7: Appends letter l to the text");
        GrammarTables x = plain();
        for (int n = 0; n < 24; n++) {
            x.letter((n + n / 3) % 3);
        }
        for (int n = 0; n < 24; n++) {
            due("letter at " + n, x.kindOf(n), (n + n / 3) % 3);
        }
    }

    private static void letterOutOfRange() {
        CHECK.says("Promise 7: l not 0 to 2 answers BAD_ARG");
        refused(Edge.NONE, "letter(-1)", x -> x.letter(-1), BAD_ARG);
        refused(Edge.NONE, "letter(3)", x -> x.letter(3), BAD_ARG);
        for (int far : Edge.FAR) {
            due("letter " + far, new GrammarTables().letter(far), BAD_ARG);
        }
        due("letter(0)", Edge.NONE.make().letter(0), 7);
        due("letter(2)", Edge.NONE.make().letter(2), 7);
    }

    private static void letterFull() {
        CHECK.says("Promise 7: 24 letters answers FULL; The TEXT is a list of at most 24 letters");
        due("letter 24", Edge.text(23).make().letter(1), 24);
        for (int l = 0; l < 3; l++) {
            int asked = l;
            refused(Edge.text(24), "letter 25, " + l, x -> x.letter(asked), FULL);
        }
        GrammarTables x = Edge.text(24).make();
        x.letter(0);
        x.letter(0);
        due("tokens of the full text", x.tokens(), 24);
        due("none behind its last", x.kindOf(24), NONE);
    }

    private static void letterInOrder() {
        CHECK.says("Promise 7: Tested in this order: BAD_ARG; FULL");
        refused(Edge.text(24), "letter(-1)", x -> x.letter(-1), BAD_ARG);
        refused(Edge.text(24), "letter(3)", x -> x.letter(3), BAD_ARG);
    }

    private static void letterAnswers() {
        CHECK.says("Promise 7: Otherwise its length");
        GrammarTables x = new GrammarTables();
        for (int n = 1; n <= 24; n++) {
            due("letter " + n, x.letter(n % 3), n);
        }
    }

    private static void textlessEmpties() {
        CHECK.says("Promise 8: The text is empty from now on");
        int[] lengths = {0, 1, 23, 24};
        for (int length : lengths) {
            GrammarTables x = Edge.text(length).make();
            x.textless();
            due("tokens after " + length, x.tokens(), 0);
            due("wrongAt after " + length, x.wrongAt(), NONE);
            due("kindOf after " + length, x.kindOf(0), NONE);
            due("lengthOf after " + length, x.lengthOf(0), NONE);
            for (int n = 1; n <= 24; n++) {
                due("letter " + n + " after " + length, x.letter(2), n);
            }
            due("letter 25 after " + length, x.letter(2), FULL);
            due("only new letters after " + length, x.kindOf(0), 2);
            due("the kinds stay after " + length, x.tokens(), 24);
            due("the stack stays after " + length, x.leaf(0), 3);
            due("the rules stay after " + length, x.unrule(), 4);
            due("the right stays after " + length, x.symbol(0), 3);
        }
    }

    // ---- how a text is cut

    private static void longestWord() {
        CHECK.says("at a place the longest word .. that some kind matches is the next TOKEN");
        GrammarTables x = new GrammarTables();
        x.leaf(3);
        x.repeat(1);
        x.kind(2);
        for (int n = 0; n < 24; n++) {
            x.letter(n % 3);
            due("one token of " + (n + 1), x.lengthOf(0), n + 1);
            due("one token", x.tokens(), 1);
        }
        // the longest word of a greater kind goes before a shorter one of the least
        x = new GrammarTables();
        spell(x, 0, 0);
        spell(x, 2, 0, 0, 0, 0, 0, 0);
        for (int n = 1; n <= 13; n++) {
            x.letter(0);
            due("tokens of " + n, x.tokens(), n / 6 + n % 6);
            due("first kind of " + n, x.kindOf(0), n < 6 ? 0 : 2);
            due("last length of " + n, x.lengthOf(x.tokens() - 1), n % 6 == 0 ? 6 : 1);
        }
    }

    private static void wordNotEmpty() {
        CHECK.says("the longest word, not empty");
        GrammarTables x = new GrammarTables();
        for (int k = 0; k < 3; k++) {
            x.leaf(4);
            x.kind(k);
        }
        due("of no letters", x.tokens(), 0);
        due("of no letters, wrong", x.wrongAt(), NONE);
        x.letter(1);
        due("of a letter", x.tokens(), 0);
        due("of a letter, wrong", x.wrongAt(), 0);
        x.leaf(1);
        x.repeat(0);
        x.kind(2);
        due("1 star on 1", x.tokens(), 1);
        due("1 star on 1, kind", x.kindOf(0), 2);
        x.letter(0);
        due("1 star on 1 0", x.tokens(), 1);
        due("1 star on 1 0, wrong", x.wrongAt(), 1);
    }

    private static void leastKind() {
        CHECK.says("of the least kind that matches it");
        for (int kinds = 1; kinds < 8; kinds++) {
            GrammarTables x = new GrammarTables();
            x.letter(0);
            for (int k = 2; k >= 0; k--) {
                if ((kinds >> k & 1) == 1) {
                    spell(x, k, 0);
                }
            }
            due("of the kinds " + kinds, x.kindOf(0), Integer.numberOfTrailingZeros(kinds));
        }
    }

    private static void wrongThere() {
        CHECK.says("if no kind matches one, the text is WRONG there");
        GrammarTables x = new GrammarTables();
        for (int place = 0; place < 24; place++) {
            x = new GrammarTables();
            spell(x, 0, 0);
            spell(x, 1, 1, 1);
            for (int n = 0; n < 24; n++) {
                x.letter(n == place ? 2 : 0);
            }
            due("wrong at " + place, x.wrongAt(), place);
            due("tokens before " + place, x.tokens(), place);
        }
        Grammars.write(x, 0, 1, 1, 1);
        due("a part of a word at the end", x.wrongAt(), 3);
        due("tokens before it", x.tokens(), 2);
    }

    private static void cutFromItsBegin() {
        CHECK.says("It is CUT from its begin on (and never otherwise, where that would help)");
        GrammarTables x = new GrammarTables();
        x.leaf(0);
        x.repeat(1);
        x.kind(0);
        spell(x, 1, 0, 1);
        Grammars.write(x, 0, 0, 1);
        due("0 0 and then 1", x.tokens(), 1);
        due("its length", x.lengthOf(0), 2);
        due("wrong at 1", x.wrongAt(), 2);
    }

    // ---- promises 9 to 12

    private static void tokensUpToWrong() {
        CHECK.says("Promise 9: The number of tokens, up to where the text is wrong");
        GrammarTables x = new GrammarTables();
        spell(x, 0, 0);
        due("of no letters", x.tokens(), 0);
        Grammars.write(x, 2, 0, 0);
        due("wrong at the begin", x.tokens(), 0);
        Grammars.write(x, 0, 2, 0, 0);
        due("wrong behind one", x.tokens(), 1);
        Grammars.write(x, 0, 0, 0, 2);
        due("wrong at the last", x.tokens(), 3);
        Grammars.write(x, 0, 0, 0, 0);
        due("not wrong", x.tokens(), 4);
        due("24", Edge.text(24).make().tokens(), 24);
    }

    private static void dueNoneAt(String name, GrammarTables x, boolean kinds, int count) {
        int[] beyond = {-1, count, count + 1, 23, 24, 25};
        for (int i : beyond) {
            if (i < 0 || i >= count) {
                due(name + " at " + i, kinds ? x.kindOf(i) : x.lengthOf(i), NONE);
            }
        }
        for (int i : Edge.FAR) {
            due(name + " at " + i, kinds ? x.kindOf(i) : x.lengthOf(i), NONE);
        }
    }

    /** Of 1 1, 0, 1 1, and a place that is wrong; longer texts were cut before. */
    private static GrammarTables threeTokens() {
        GrammarTables x = new GrammarTables();
        spell(x, 0, 0);
        spell(x, 2, 1, 1);
        Grammars.write(x, 0, 0, 0, 0, 0, 0, 0, 0, 0, 0, 0, 0, 0, 0, 0, 0, 0, 0, 0, 0, 0, 0, 0, 0);
        x.tokens();
        Grammars.write(x, 1, 1, 0, 1, 1, 2, 0);
        return x;
    }

    private static void kindOfNone() {
        CHECK.says("Promise 10: The kind of token i; NONE if there is none");
        dueNoneAt("of no letters", new GrammarTables(), true, 0);
        dueNoneAt("of 24", Edge.text(24).make(), true, 24);
        GrammarTables x = threeTokens();
        due("first", x.kindOf(0), 2);
        due("second", x.kindOf(1), 0);
        due("last", x.kindOf(2), 2);
        dueNoneAt("of three", x, true, 3);
        due("last of 24", Edge.text(24).make().kindOf(23), 2);
    }

    private static void lengthOfNone() {
        CHECK.says("Promise 11: The number of letters of token i; NONE if there is none");
        dueNoneAt("of no letters", new GrammarTables(), false, 0);
        dueNoneAt("of 24", Edge.text(24).make(), false, 24);
        GrammarTables x = threeTokens();
        due("first", x.lengthOf(0), 2);
        due("second", x.lengthOf(1), 1);
        due("last", x.lengthOf(2), 2);
        dueNoneAt("of three", x, false, 3);
        due("last of 24", Edge.text(24).make().lengthOf(23), 1);
    }

    private static void wrongAtNone() {
        CHECK.says("Promise 12: The place at which the text is wrong; NONE if it is not");
        due("of no letters", new GrammarTables().wrongAt(), NONE);
        due("of 24", Edge.text(24).make().wrongAt(), NONE);
        due("a place, not a number of tokens", threeTokens().wrongAt(), 5);
        GrammarTables x = Edge.text(24).make();
        x.patternless();
        due("without patterns", x.wrongAt(), 0);
        x.textless();
        due("no letters, without patterns", x.wrongAt(), NONE);
        CHECK.says("Promise 28: Tokens, and the places of the text, are numbered from 0");
        GrammarTables y = plain();
        y.letter(2);
        due("the only token", y.kindOf(0), 2);
        due("its length", y.lengthOf(0), 1);
        due("token 1", y.kindOf(1), NONE);
        y.patternless();
        due("the only place", y.wrongAt(), 0);
    }

    private static void questionsChangeNothing() {
        CHECK.says("Promises 9 to 12 ask, and a call that finds none changes nothing");
        Edge at = Edge.NONE;
        at.leftAlone(CHECK, "tokens()", x -> x.tokens(), 6);
        at.leftAlone(CHECK, "wrongAt()", x -> x.wrongAt(), NONE);
        at.leftAlone(CHECK, "kindOf(5)", x -> x.kindOf(5), 2);
        at.leftAlone(CHECK, "kindOf(6)", x -> x.kindOf(6), NONE);
        at.leftAlone(CHECK, "kindOf(-1)", x -> x.kindOf(-1), NONE);
        at.leftAlone(CHECK, "lengthOf(5)", x -> x.lengthOf(5), 1);
        at.leftAlone(CHECK, "lengthOf(6)", x -> x.lengthOf(6), NONE);
        at.leftAlone(CHECK, "lengthOf(-1)", x -> x.lengthOf(-1), NONE);
    }
}

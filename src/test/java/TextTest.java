/** Promises 7 to 12 and 28: the text and its tokens. */
public final class TextTest {
    private static final Check CHECK = new Check();

    public static void main(String[] args) {
        letter();
        textless();
        longestThenLeast();
        wrong();
        emptyWord();
        numbers();
        backsUp();
        CHECK.end();
    }

    private static void due(String call, long got, long want) {
        CHECK.due(call, got, want);
    }

    private static void write(GrammarTables x, int... letters) {
        x.textless();
        for (int l : letters) {
            x.letter(l);
        }
    }

    private static void letter() {
        GrammarTables x = new GrammarTables();
        due("letter(-1)", x.letter(-1), GrammarTables.BAD_ARG);
        due("letter(3)", x.letter(3), GrammarTables.BAD_ARG);
        for (int i = 1; i <= 24; i++) {
            due("letter " + i, x.letter(i % 3), i);
        }
        due("letter 25", x.letter(0), GrammarTables.FULL);
        due("bad letter 25", x.letter(3), GrammarTables.BAD_ARG);
        x.leaf(3);
        x.kind(0);
        due("24 tokens", x.tokens(), 24);
        due("last of 24", x.lengthOf(23), 1);
        due("none behind it", x.lengthOf(24), GrammarTables.NONE);
        due("not wrong", x.wrongAt(), GrammarTables.NONE);
        x.leaf(3);
        x.repeat(1);
        x.kind(2);
        due("one token of 24", x.lengthOf(0), 24);
        due("one token", x.tokens(), 1);
    }

    private static void textless() {
        GrammarTables x = new GrammarTables();
        x.leaf(0);
        x.kind(0);
        write(x, 0, 0, 1);
        due("tokens before", x.tokens(), 2);
        x.textless();
        due("tokens after", x.tokens(), 0);
        due("wrongAt after", x.wrongAt(), GrammarTables.NONE);
        due("kindOf after", x.kindOf(0), GrammarTables.NONE);
        due("letter after", x.letter(0), 1);
        due("the pattern stays", x.tokens(), 1);
    }

    private static void longestThenLeast() {
        GrammarTables x = new GrammarTables();
        x.leaf(0);
        x.kind(0);
        x.leaf(0);
        x.kind(1);
        x.leaf(0);
        x.leaf(0);
        x.join(0);
        x.kind(2);
        write(x, 0, 0, 0);
        due("tokens", x.tokens(), 2);
        due("the longest first", x.kindOf(0), 2);
        due("its length", x.lengthOf(0), 2);
        due("then the least kind", x.kindOf(1), 0);
        due("its length", x.lengthOf(1), 1);
        due("no more", x.kindOf(2), GrammarTables.NONE);
    }

    private static void wrong() {
        GrammarTables x = new GrammarTables();
        x.leaf(0);
        x.leaf(1);
        x.join(0);
        x.kind(1);
        write(x, 0, 1, 0, 1, 0, 2, 0, 1);
        due("tokens up to the wrong place", x.tokens(), 2);
        due("wrong place", x.wrongAt(), 4);
        due("no token there", x.kindOf(2), GrammarTables.NONE);
        due("no length there", x.lengthOf(2), GrammarTables.NONE);
        write(x, 2);
        due("wrong at the begin", x.wrongAt(), 0);
        due("no tokens", x.tokens(), 0);
        write(x, 0, 1, 0);
        due("a part of a token", x.wrongAt(), 2);
        write(x);
        due("an empty text is not wrong", x.wrongAt(), GrammarTables.NONE);
    }

    private static void emptyWord() {
        GrammarTables x = new GrammarTables();
        x.leaf(0);
        x.repeat(0);
        x.kind(0);
        x.leaf(4);
        x.kind(1);
        write(x, 1);
        due("the empty word is no token", x.tokens(), 0);
        due("so it is wrong", x.wrongAt(), 0);
        write(x, 0, 0, 1);
        due("a token, then wrong", x.tokens(), 1);
        due("wrong behind it", x.wrongAt(), 2);
    }

    private static void numbers() {
        GrammarTables x = new GrammarTables();
        x.leaf(3);
        x.kind(2);
        write(x, 0, 1);
        int[] none = {-1, 2, 3, 24, 25, Integer.MIN_VALUE, Integer.MAX_VALUE};
        for (int i : none) {
            due("kindOf " + i, x.kindOf(i), GrammarTables.NONE);
            due("lengthOf " + i, x.lengthOf(i), GrammarTables.NONE);
        }
        due("kindOf 0", x.kindOf(0), 2);
        due("kindOf 1", x.kindOf(1), 2);
    }

    // A long match that fails at its end leaves the longest one before it.
    private static void backsUp() {
        GrammarTables x = new GrammarTables();
        x.leaf(0);
        x.kind(1);
        x.leaf(0);
        x.repeat(1);
        x.leaf(1);
        x.join(0);
        x.kind(0);
        write(x, 0, 0, 0, 2);
        due("three single ones", x.tokens(), 3);
        due("kind of the first", x.kindOf(0), 1);
        due("wrong behind them", x.wrongAt(), 3);
        write(x, 0, 0, 0, 1);
        due("one long one", x.tokens(), 1);
        due("kind of it", x.kindOf(0), 0);
    }
}

import java.util.ArrayList;
import java.util.List;
import java.util.Random;

/**
 * All promises: the program beside SlowTables, call by call, on many grammars, patterns and texts. The
 * seeds are fixed; "OracleTest n" runs n rounds in place of the usual number.
 */
public final class OracleTest {
    private static final Check CHECK = new Check();
    private static final int[] GRADES = new int[16];

    private final Random random;
    private final GrammarTables fast = new GrammarTables();
    private final SlowTables slow = new SlowTables();
    private final String name;
    private final StringBuilder log = new StringBuilder();
    private int calls = 0;
    private final List<Integer> lefts = new ArrayList<>();
    private final List<List<Integer>> rights = new ArrayList<>();

    private OracleTest(int seed) {
        random = new Random(seed);
        name = "seed " + seed + ": ";
    }

    public static void main(String[] args) {
        int rounds = args.length > 0 ? Integer.parseInt(args[0]) : 1500;
        int first = args.length > 1 ? Integer.parseInt(args[1]) : 0;
        for (int seed = first; seed < first + rounds && CHECK.wrongs() == 0; seed++) {
            new OracleTest(seed).run(seed % 5);
        }
        StringBuilder grades = new StringBuilder("grades met:");
        for (int g = -5; g <= 4; g++) {
            grades.append(' ').append(g).append(" x ").append(GRADES[g + 5]);
        }
        System.out.println(grades + ", reads " + GRADES[10] + ", grade below 3 with LARGE wide states " + GRADES[11]);
        CHECK.end();
    }

    private void run(int way) {
        switch (way) {
            case 0 -> anyCalls();
            case 1 -> patterns();
            case 2 -> grammarNear(Grammars.CASES[at(Grammars.CASES.length)].rules());
            default -> grammar(way == 3);
        }
        if (CHECK.wrongs() > 0) {
            System.out.println(name + log);
        }
    }

    private int at(int bound) {
        return random.nextInt(bound);
    }

    private void due(String call, long got, long want) {
        calls++;
        log.append(call).append('=').append(want).append(' ');
        CHECK.due(name + call, got, want);
    }

    private void due(String call, boolean got, boolean want) {
        due(call, got ? 1L : 0L, want ? 1L : 0L);
    }

    // ---- changes, on both

    private void leaf(int op) {
        due("leaf(" + op + ")", fast.leaf(op), slow.leaf(op));
    }

    private void repeat(int op) {
        due("repeat(" + op + ")", fast.repeat(op), slow.repeat(op));
    }

    private void join(int op) {
        due("join(" + op + ")", fast.join(op), slow.join(op));
    }

    private void kind(int k) {
        due("kind(" + k + ")", fast.kind(k), slow.kind(k));
    }

    private void patternless() {
        calls++;
        log.append("patternless ");
        fast.patternless();
        slow.patternless();
    }

    private void letter(int l) {
        due("letter(" + l + ")", fast.letter(l), slow.letter(l));
    }

    private void textless() {
        calls++;
        log.append("textless ");
        fast.textless();
        slow.textless();
    }

    private void symbol(int s) {
        due("symbol(" + s + ")", fast.symbol(s), slow.symbol(s));
    }

    private void rule(int v) {
        due("rule(" + v + ")", fast.rule(v), slow.rule(v));
    }

    private void unrule() {
        due("unrule()", fast.unrule(), slow.unrule());
    }

    // ---- questions, to both

    private void askTokens() {
        due("tokens()", fast.tokens(), slow.tokens());
        due("wrongAt()", fast.wrongAt(), slow.wrongAt());
        int i = at(26) - 1;
        due("kindOf(" + i + ")", fast.kindOf(i), slow.kindOf(i));
        due("lengthOf(" + i + ")", fast.lengthOf(i), slow.lengthOf(i));
        due("kindOf(0)", fast.kindOf(0), slow.kindOf(0));
        due("lengthOf(1)", fast.lengthOf(1), slow.lengthOf(1));
    }

    private void askAutomaton(int k) {
        due("automaton(" + k + ")", fast.automaton(k), slow.automaton(k));
    }

    private void askGrammar() {
        for (int r = -1; r <= 9; r++) {
            due("useful(" + r + ")", fast.useful(r), slow.useful(r));
        }
        for (int v = 2; v <= 7; v++) {
            due("begins(" + v + ")", fast.begins(v), slow.begins(v));
        }
        due("states()", fast.states(), slow.states());
        due("wideStates()", fast.wideStates(), slow.wideStates());
        if (!slow.isUnknown()) {
            for (int v = 2; v <= 7; v++) {
                due("follows(" + v + ")", fast.follows(v), slow.follows(v));
            }
            due("grade()", fast.grade(), slow.grade());
            GRADES[slow.grade() + 5]++;
            if (slow.grade() >= 0 && slow.grade() < 3 && slow.wideStates() == GrammarTables.LARGE) {
                GRADES[11]++;
            }
        }
    }

    private void askReading() {
        if (slow.isUnknown()) {
            return;
        }
        // each of them comes first now and then, and so finds what another one would have found
        int first = at(4);
        for (int n = 0; n < 4; n++) {
            switch ((first + n) % 4) {
                case 0 -> due("reads()", fast.reads(), slow.reads());
                case 1 -> due("stopsAt()", fast.stopsAt(), slow.stopsAt());
                case 2 -> due("uses()", fast.uses(), slow.uses());
                default -> due("value()", fast.value(), slow.value());
            }
        }
        GRADES[10] += fast.reads() ? 1 : 0;
        int n = slow.uses();
        int[] asked = {-1, 0, 1, at(10), n / 2, n - 1, n, 199, 200};
        for (int i : asked) {
            due("used(" + i + ")", fast.used(i), slow.used(i));
        }
    }

    // ---- ways

    private void anyCalls() {
        while (calls < 440) {
            switch (at(16)) {
                case 0, 1 -> leaf(at(7) - 1);
                case 2 -> repeat(at(5) - 1);
                case 3 -> join(at(4) - 1);
                case 4 -> kind(at(5) - 1);
                case 5, 6, 7 -> letter(at(14) == 0 ? at(5) - 1 : at(3));
                case 8, 9 -> symbol(at(9) - 1);
                case 10 -> rule(at(5) == 0 ? at(9) : 3 + at(2));
                case 11 -> {
                    if (at(4) == 0) {
                        unrule();
                    }
                }
                case 12 -> {
                    if (at(8) == 0) {
                        patternless();
                    } else if (at(3) == 0) {
                        textless();
                    }
                }
                case 13 -> askTokens();
                case 14 -> askAutomaton(at(5) - 1);
                default -> {
                    if (at(3) == 0) {
                        askGrammar();
                    } else {
                        askReading();
                    }
                }
            }
        }
    }

    private void patterns() {
        while (calls < 400) {
            for (int n = 3 + at(14); n > 0; n--) {
                switch (at(6)) {
                    case 0, 1, 2 -> leaf(at(5));
                    case 3 -> repeat(at(3));
                    default -> join(at(2));
                }
            }
            int joins = at(8);
            for (int n = 0; n < joins; n++) {
                join(n % 2);
            }
            int k = at(3);
            kind(k);
            askAutomaton(k);
            textless();
            for (int n = at(25); n > 0; n--) {
                letter(at(3));
            }
            askTokens();
            if (at(4) == 0) {
                patternless();
            }
        }
    }

    private void plainKinds() {
        for (int k = 0; k < 3; k++) {
            leaf(k);
            if (at(4) == 0) {
                repeat(1);
            }
            kind(k);
        }
    }

    /** One of the grammars that are known, or one that differs a little from it. */
    private void grammarNear(int[][] known) {
        plainKinds();
        int changed = at(3) == 0 ? -1 : at(known.length);
        for (int r = 0; r < known.length; r++) {
            List<Integer> right = new ArrayList<>();
            for (int j = 1; j < known[r].length; j++) {
                right.add(known[r][j]);
            }
            if (r == changed) {
                change(right);
            }
            addRule(known[r][0], right);
        }
        askAll(2);
        while (calls < 330) {
            changeRules();
            askAll(1);
        }
    }

    /** Some of the last rules go, and others come in their places. */
    private void changeRules() {
        int taken = 1 + at(lefts.size());
        List<List<Integer>> again = new ArrayList<>();
        for (int n = 0; n < taken; n++) {
            unrule();
            again.add(0, new ArrayList<>(rights.remove(rights.size() - 1)));
            again.get(0).add(0, lefts.remove(lefts.size() - 1));
        }
        for (List<Integer> rule : again) {
            int v = rule.remove(0);
            if (at(3) == 0) {
                change(rule);
            }
            addRule(v, rule);
        }
    }

    private void change(List<Integer> right) {
        if (at(2) == 0 && right.size() < 4) {
            right.add(at(7));
        } else if (!right.isEmpty() && at(2) == 0) {
            right.remove(at(right.size()));
        } else if (!right.isEmpty()) {
            right.set(at(right.size()), at(7));
        }
    }

    private void addRule(int v, List<Integer> right) {
        right.forEach(this::symbol);
        rule(v);
        lefts.add(v);
        rights.add(right);
    }

    private void askAll(int texts) {
        if (at(2) == 0) {
            askGrammar();
        }
        for (int n = 0; n < texts; n++) {
            writeText();
            if (at(2) == 0) {
                askTokens();
            }
            askReading();
        }
        askGrammar();
    }

    private void grammar(boolean plainRights) {
        plainKinds();
        int variables = 1 + at(4);
        int count = 2 + at(8);
        for (int r = 0; r < count; r++) {
            int v = r < variables ? 3 + r : 3 + at(variables);
            List<Integer> right = new ArrayList<>();
            int most = plainRights ? 4 : 5;
            for (int n = Math.min(4, at(most) + (plainRights && at(2) == 0 ? 1 : 0)); n > 0; n--) {
                right.add(at(2) == 0 ? at(3) : 3 + at(variables));
            }
            addRule(v, right);
            if (at(3) == 0 && r + 1 < count) {
                due("grade()", fast.grade(), slow.isUnknown() ? fast.grade() : slow.grade());
            }
        }
        askAll(8);
        unrule();
        askReading();
    }

    /** Letters of a list that symbol 3 derives, if one is found, with a mistake now and then. */
    private void writeText() {
        textless();
        List<Integer> list = new ArrayList<>(List.of(3));
        for (int moves = 0; moves < 60; moves++) {
            int place = placeOfVariable(list);
            if (place < 0) {
                break;
            }
            List<Integer> right = someRight(list.get(place), list.size() + moves / 2);
            if (right == null) {
                break;
            }
            list.remove(place);
            list.addAll(place, right);
        }
        for (int s : list) {
            if (s < 3 && calls < 480) {
                letter(at(12) == 0 ? at(3) : s);
            }
        }
    }

    private int placeOfVariable(List<Integer> list) {
        for (int i = 0; i < list.size(); i++) {
            if (list.get(i) >= 3) {
                return i;
            }
        }
        return -1;
    }

    private List<Integer> someRight(int v, int size) {
        List<Integer> best = null;
        int start = at(rights.size());
        for (int n = 0; n < rights.size(); n++) {
            int r = (start + n) % rights.size();
            if (lefts.get(r) == v && slow.useful(r)
                    && (best == null || size > 14 && rights.get(r).size() < best.size())) {
                best = rights.get(r);
            }
        }
        return best;
    }
}

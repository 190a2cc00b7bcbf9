import java.util.ArrayDeque;
import java.util.ArrayList;
import java.util.Deque;
import java.util.HashMap;
import java.util.HashSet;
import java.util.LinkedHashSet;
import java.util.List;
import java.util.Map;
import java.util.Set;
import java.util.TreeSet;

/**
 * The document said again, slowly and in other ways than the program goes: patterns by what is left of
 * them behind a letter, states as sets of texts, looks by all the wide states, reading by all spans.
 */
final class SlowTables {
    private static final int END = 3;

    // ---- patterns: "0" nothing, "1" the empty word, "[m" letters of mask m, and . | * over them

    private record Pattern(char op, int letters, List<Pattern> parts, String key) { }

    private static final Pattern NOTHING = new Pattern('0', 0, List.of(), "0");
    private static final Pattern EMPTY = new Pattern('1', 0, List.of(), "1");

    private static Pattern letters(int mask) {
        return new Pattern('[', mask, List.of(), "[" + mask);
    }

    private static Pattern then(Pattern x, Pattern y) {
        if (x == NOTHING || y == NOTHING) {
            return NOTHING;
        }
        if (x == EMPTY) {
            return y;
        }
        if (y == EMPTY) {
            return x;
        }
        if (x.op == '.') {
            return then(x.parts.get(0), then(x.parts.get(1), y));
        }
        return new Pattern('.', 0, List.of(x, y), "(" + x.key + "." + y.key + ")");
    }

    private static Pattern or(Pattern x, Pattern y) {
        Map<String, Pattern> parts = new java.util.TreeMap<>();
        for (Pattern p : List.of(x, y)) {
            if (p.op == '|') {
                p.parts.forEach(q -> parts.put(q.key, q));
            } else if (p != NOTHING) {
                parts.put(p.key, p);
            }
        }
        if (parts.isEmpty()) {
            return NOTHING;
        }
        if (parts.size() == 1) {
            return parts.values().iterator().next();
        }
        return new Pattern('|', 0, List.copyOf(parts.values()), "(" + String.join("|", parts.keySet()) + ")");
    }

    private static Pattern star(Pattern x) {
        if (x == NOTHING || x == EMPTY) {
            return EMPTY;
        }
        return x.op == '*' ? x : new Pattern('*', 0, List.of(x), x.key + "*");
    }

    private static boolean matchesEmpty(Pattern x) {
        return switch (x.op) {
            case '1', '*' -> true;
            case '.' -> matchesEmpty(x.parts.get(0)) && matchesEmpty(x.parts.get(1));
            case '|' -> x.parts.stream().anyMatch(SlowTables::matchesEmpty);
            default -> false;
        };
    }

    private static Pattern behind(Pattern x, int letter) {
        switch (x.op) {
            case '[':
                return (x.letters >> letter & 1) == 1 ? EMPTY : NOTHING;
            case '.':
                Pattern first = x.parts.get(0);
                Pattern second = x.parts.get(1);
                Pattern left = then(behind(first, letter), second);
                return matchesEmpty(first) ? or(left, behind(second, letter)) : left;
            case '|':
                Pattern all = NOTHING;
                for (Pattern p : x.parts) {
                    all = or(all, behind(p, letter));
                }
                return all;
            case '*':
                return then(behind(x.parts.get(0), letter), x);
            default:
                return NOTHING;
        }
    }

    private record Entry(Pattern pattern, int size) { }

    private final List<Entry> stack = new ArrayList<>();
    private final Pattern[] kinds = {NOTHING, NOTHING, NOTHING};
    private int made = 0;

    int leaf(int op) {
        if (op < 0 || op > 4) {
            return GrammarTables.BAD_ARG;
        }
        if (made == 60 || stack.size() == 8) {
            return GrammarTables.FULL;
        }
        stack.add(op == 4 ? new Entry(EMPTY, 0) : new Entry(letters(op == 3 ? 7 : 1 << op), 1));
        made++;
        return stack.size();
    }

    int repeat(int op) {
        if (op < 0 || op > 2) {
            return GrammarTables.BAD_ARG;
        }
        if (made == 60) {
            return GrammarTables.FULL;
        }
        if (stack.isEmpty()) {
            return GrammarTables.TOO_FEW;
        }
        Entry top = stack.remove(stack.size() - 1);
        Pattern x = top.pattern;
        Pattern done = op == 0 ? star(x) : op == 1 ? then(x, star(x)) : or(x, EMPTY);
        stack.add(new Entry(done, top.size));
        made++;
        return stack.size();
    }

    int join(int op) {
        if (op < 0 || op > 1) {
            return GrammarTables.BAD_ARG;
        }
        if (made == 60) {
            return GrammarTables.FULL;
        }
        if (stack.size() < 2) {
            return GrammarTables.TOO_FEW;
        }
        Entry y = stack.get(stack.size() - 1);
        Entry x = stack.get(stack.size() - 2);
        if (x.size + y.size > 6) {
            return GrammarTables.FULL;
        }
        stack.remove(stack.size() - 1);
        stack.remove(stack.size() - 1);
        stack.add(new Entry(op == 0 ? then(x.pattern, y.pattern) : or(x.pattern, y.pattern), x.size + y.size));
        made++;
        return stack.size();
    }

    int kind(int k) {
        if (k < 0 || k > 2) {
            return GrammarTables.BAD_ARG;
        }
        if (stack.isEmpty()) {
            return GrammarTables.TOO_FEW;
        }
        kinds[k] = stack.remove(stack.size() - 1).pattern;
        return stack.size();
    }

    void patternless() {
        kinds[0] = NOTHING;
        kinds[1] = NOTHING;
        kinds[2] = NOTHING;
        stack.clear();
        made = 0;
    }

    /** All that can be left of the kind's pattern, less those that some word shows to be the same. */
    int automaton(int k) {
        if (k < 0 || k > 2) {
            return GrammarTables.BAD_ARG;
        }
        Map<String, Integer> number = new HashMap<>();
        List<Pattern> all = new ArrayList<>();
        number.put(kinds[k].key, 0);
        all.add(kinds[k]);
        List<int[]> steps = new ArrayList<>();
        for (int i = 0; i < all.size(); i++) {
            int[] to = new int[3];
            for (int l = 0; l < 3; l++) {
                Pattern next = behind(all.get(i), l);
                Integer known = number.get(next.key);
                if (known == null) {
                    known = all.size();
                    number.put(next.key, known);
                    all.add(next);
                }
                to[l] = known;
            }
            steps.add(to);
        }
        boolean[][] differ = differing(all, steps);
        int count = 0;
        for (int a = 0; a < all.size(); a++) {
            boolean fresh = true;
            for (int b = 0; b < a; b++) {
                fresh &= differ[a][b];
            }
            count += fresh ? 1 : 0;
        }
        return count;
    }

    private static boolean[][] differing(List<Pattern> all, List<int[]> steps) {
        int n = all.size();
        boolean[][] differ = new boolean[n][n];
        for (boolean changed = true; changed;) {
            changed = false;
            for (int a = 0; a < n; a++) {
                for (int b = 0; b < n; b++) {
                    boolean now = matchesEmpty(all.get(a)) != matchesEmpty(all.get(b));
                    for (int l = 0; l < 3; l++) {
                        now |= differ[steps.get(a)[l]][steps.get(b)[l]];
                    }
                    changed |= now && !differ[a][b];
                    differ[a][b] |= now;
                }
            }
        }
        return differ;
    }

    // ---- the text

    private final List<Integer> text = new ArrayList<>();
    private final List<int[]> cut = new ArrayList<>();
    private int wrong;

    int letter(int l) {
        if (l < 0 || l > 2) {
            return GrammarTables.BAD_ARG;
        }
        if (text.size() == 24) {
            return GrammarTables.FULL;
        }
        text.add(l);
        return text.size();
    }

    void textless() {
        text.clear();
    }

    private void cutText() {
        cut.clear();
        wrong = GrammarTables.NONE;
        for (int place = 0; place < text.size();) {
            int[] token = tokenAt(place);
            if (token == null) {
                wrong = place;
                return;
            }
            cut.add(token);
            place += token[1];
        }
    }

    private int[] tokenAt(int place) {
        for (int end = text.size(); end > place; end--) {
            for (int k = 0; k < 3; k++) {
                Pattern left = kinds[k];
                for (int i = place; i < end; i++) {
                    left = behind(left, text.get(i));
                }
                if (matchesEmpty(left)) {
                    return new int[] {k, end - place};
                }
            }
        }
        return null;
    }

    int tokens() {
        cutText();
        return cut.size();
    }

    int kindOf(int i) {
        cutText();
        return i < 0 || i >= cut.size() ? GrammarTables.NONE : cut.get(i)[0];
    }

    int lengthOf(int i) {
        cutText();
        return i < 0 || i >= cut.size() ? GrammarTables.NONE : cut.get(i)[1];
    }

    int wrongAt() {
        cutText();
        return wrong;
    }

    // ---- rules

    private record Rule(int left, List<Integer> right) { }

    private final List<Rule> rules = new ArrayList<>();
    private final List<Integer> making = new ArrayList<>();
    private boolean fresh = false;

    int symbol(int s) {
        if (s < 0 || s > 6) {
            return GrammarTables.BAD_ARG;
        }
        if (making.size() == 4) {
            return GrammarTables.FULL;
        }
        making.add(s);
        return making.size();
    }

    int rule(int v) {
        if (v < 3 || v > 6) {
            return GrammarTables.BAD_ARG;
        }
        if (rules.size() == 9) {
            return GrammarTables.FULL;
        }
        rules.add(new Rule(v, List.copyOf(making)));
        making.clear();
        fresh = false;
        return rules.size() - 1;
    }

    int unrule() {
        if (rules.isEmpty()) {
            return GrammarTables.NONE;
        }
        rules.remove(rules.size() - 1);
        fresh = false;
        return rules.size();
    }

    // ---- what the rules tell

    private static final int CAP = 400;
    private final Set<Integer> useful = new TreeSet<>();
    private final Set<Integer> empties = new HashSet<>();
    private final Set<Set<String>> narrow = new LinkedHashSet<>();
    private final Set<Set<String>> wide = new LinkedHashSet<>();
    private final int[] followed = new int[7];
    private int grade;
    /** Set when the wide states were too many even for this class: grade and follows are then not known. */
    private boolean unknown;

    private void prepare() {
        if (fresh) {
            return;
        }
        fresh = true;
        unknown = false;
        findUseful();
        findEmpties();
        narrow.clear();
        wide.clear();
        java.util.Arrays.fill(followed, 0);
        followed[3] = 8;
        grade = GrammarTables.NONE;
        if (useful.isEmpty()) {
            return;
        }
        makeStates(narrow, false);
        makeStates(wide, true);
        unknown = narrow.size() >= CAP || wide.size() >= CAP;
        if (!unknown) {
            findFollowed();
            grade = findGrade();
        }
    }

    boolean isUnknown() {
        prepare();
        return unknown;
    }

    int narrowSize() {
        prepare();
        return narrow.size();
    }

    int wideSize() {
        prepare();
        return wide.size();
    }

    /** The grade as it would be without limits. */
    int gradeWithoutLimits() {
        prepare();
        return grade;
    }

    private boolean ends(List<Integer> symbols, Set<Integer> ending) {
        return symbols.stream().allMatch(s -> s < 3 || ending.contains(s));
    }

    private void findUseful() {
        useful.clear();
        Set<Integer> ending = new HashSet<>();
        for (int before = -1; before != ending.size();) {
            before = ending.size();
            rules.stream().filter(r -> ends(r.right, ending)).forEach(r -> ending.add(r.left));
        }
        Deque<Integer> open = new ArrayDeque<>();
        Set<Integer> reached = new HashSet<>();
        if (ending.contains(3)) {
            open.add(3);
            reached.add(3);
        }
        while (!open.isEmpty()) {
            int v = open.remove();
            for (int r = 0; r < rules.size(); r++) {
                if (rules.get(r).left == v && ends(rules.get(r).right, ending)) {
                    useful.add(r);
                    for (int s : rules.get(r).right) {
                        if (s >= 3 && reached.add(s)) {
                            open.add(s);
                        }
                    }
                }
            }
        }
    }

    private void findEmpties() {
        empties.clear();
        for (int before = -1; before != empties.size();) {
            before = empties.size();
            for (int r : useful) {
                if (empties.containsAll(rules.get(r).right)) {
                    empties.add(rules.get(r).left);
                }
            }
        }
    }

    /** The kinds, and END for the empty list, that lists which these symbols derive begin with. */
    private Set<Integer> beginsOf(List<Integer> symbols) {
        Set<Integer> found = new TreeSet<>();
        Set<Integer> seen = new HashSet<>();
        Deque<List<Integer>> open = new ArrayDeque<>();
        open.add(symbols);
        while (!open.isEmpty()) {
            List<Integer> list = open.remove();
            for (int s : list) {
                if (s < 3) {
                    found.add(s);
                } else if (seen.add(s)) {
                    useful.stream().filter(r -> rules.get(r).left == s).forEach(r -> open.add(rules.get(r).right));
                }
                if (!empties.contains(s)) {
                    break;
                }
            }
        }
        if (empties.containsAll(symbols)) {
            found.add(END);
        }
        return found;
    }

    // An item is "r p" with r = 9 for the first rule; a wide one is "r p t".

    private List<Integer> rightOf(int r) {
        return r == 9 ? List.of(3) : rules.get(r).right;
    }

    private static int[] parse(String item) {
        String[] parts = item.split(" ");
        int[] numbers = new int[parts.length];
        for (int i = 0; i < parts.length; i++) {
            numbers[i] = Integer.parseInt(parts[i]);
        }
        return numbers;
    }

    private int nextOf(int[] item) {
        List<Integer> right = rightOf(item[0]);
        return item[1] == right.size() ? -1 : right.get(item[1]);
    }

    private Set<Integer> looksBehind(int[] item) {
        List<Integer> right = rightOf(item[0]);
        Set<Integer> looks = beginsOf(right.subList(item[1] + 1, right.size()));
        if (looks.remove(END)) {
            looks.add(item[2]);
        }
        return looks;
    }

    private Set<String> closure(Set<String> start) {
        Set<String> closed = new TreeSet<>(start);
        Deque<String> open = new ArrayDeque<>(start);
        while (!open.isEmpty()) {
            int[] item = parse(open.remove());
            int next = nextOf(item);
            for (int r : useful) {
                if (rules.get(r).left == next) {
                    if (item.length == 2) {
                        add(closed, open, r + " 0");
                    } else {
                        looksBehind(item).forEach(u -> add(closed, open, r + " 0 " + u));
                    }
                }
            }
        }
        return closed;
    }

    private static void add(Set<String> closed, Deque<String> open, String item) {
        if (closed.add(item)) {
            open.add(item);
        }
    }

    private Set<String> step(Set<String> state, int symbol) {
        Set<String> moved = new TreeSet<>();
        for (String text : state) {
            int[] item = parse(text);
            if (nextOf(item) == symbol) {
                moved.add(item[0] + " " + (item[1] + 1) + (item.length == 3 ? " " + item[2] : ""));
            }
        }
        return closure(moved);
    }

    private void makeStates(Set<Set<String>> states, boolean withLooks) {
        Deque<Set<String>> open = new ArrayDeque<>();
        Set<String> start = closure(Set.of(withLooks ? "9 0 3" : "9 0"));
        states.add(start);
        open.add(start);
        while (!open.isEmpty() && states.size() < CAP) {
            Set<String> state = open.remove();
            for (int s = 0; s < 7; s++) {
                Set<String> next = step(state, s);
                if (!next.isEmpty() && states.add(next)) {
                    open.add(next);
                }
            }
        }
    }

    private void findFollowed() {
        for (Set<String> state : wide) {
            for (String text : state) {
                int[] item = parse(text);
                int next = nextOf(item);
                if (next >= 3) {
                    looksBehind(item).forEach(u -> followed[next] |= 1 << u);
                }
            }
        }
    }

    private int findGrade() {
        boolean[] holds = {true, true, true, true};
        Map<Set<String>, Set<String>> merged = new HashMap<>();
        for (Set<String> state : wide) {
            Set<String> core = new TreeSet<>();
            state.forEach(text -> core.add(text.substring(0, text.lastIndexOf(' '))));
            merged.computeIfAbsent(core, c -> new TreeSet<>()).addAll(state);
            holds[3] &= !clash(state);
        }
        for (Set<String> state : narrow) {
            Set<String> all = new TreeSet<>();
            Set<String> following = new TreeSet<>();
            for (String text : state) {
                int r = parse(text)[0];
                int set = r == 9 ? 8 : followed[rules.get(r).left];
                for (int t = 0; t < 4; t++) {
                    all.add(text + " " + t);
                    if ((set >> t & 1) == 1) {
                        following.add(text + " " + t);
                    }
                }
            }
            holds[0] &= !clash(all);
            holds[1] &= !clash(following);
            holds[2] &= !clash(merged.get(state));
        }
        for (int g = 0; g < 4; g++) {
            if (holds[g]) {
                return g;
            }
        }
        return 4;
    }

    private boolean clash(Set<String> items) {
        for (int t = 0; t < 4; t++) {
            Set<String> complete = new HashSet<>();
            boolean next = false;
            for (String text : items) {
                int[] item = parse(text);
                if (nextOf(item) == -1 && item[2] == t) {
                    complete.add(item[0] + " " + item[1]);
                }
                next |= t < 3 && nextOf(item) == t;
            }
            if (complete.size() > 1 || complete.size() == 1 && next) {
                return true;
            }
        }
        return false;
    }

    boolean useful(int r) {
        prepare();
        return useful.contains(r);
    }

    int begins(int v) {
        if (v < 3 || v > 6) {
            return GrammarTables.BAD_ARG;
        }
        prepare();
        return beginsOf(List.of(v)).stream().mapToInt(t -> 1 << t).sum();
    }

    int follows(int v) {
        if (v < 3 || v > 6) {
            return GrammarTables.BAD_ARG;
        }
        prepare();
        return followed[v];
    }

    int states() {
        prepare();
        return useful.isEmpty() ? GrammarTables.NONE : narrow.size() > 60 ? GrammarTables.LARGE : narrow.size();
    }

    int wideStates() {
        prepare();
        if (useful.isEmpty()) {
            return GrammarTables.NONE;
        }
        return narrow.size() > 60 || wide.size() > 80 ? GrammarTables.LARGE : wide.size();
    }

    int grade() {
        prepare();
        if (useful.isEmpty()) {
            return GrammarTables.NONE;
        }
        return narrow.size() > 60 || grade > 2 && wide.size() > 80 ? GrammarTables.LARGE : grade;
    }

    // ---- reading: by which spans a symbol derives

    /** spans[s][i][j]: whether symbol s derives the kinds of the tokens i to j - 1. */
    private boolean[][][] spans() {
        int n = cut.size();
        boolean[][][] spans = new boolean[7][n + 1][n + 1];
        for (int i = 0; i < n; i++) {
            spans[cut.get(i)[0]][i][i + 1] = true;
        }
        for (boolean changed = true; changed;) {
            changed = false;
            for (int r : useful) {
                for (int i = 0; i <= n; i++) {
                    for (int j : endsOf(spans, rules.get(r).right, i)) {
                        changed |= !spans[rules.get(r).left][i][j];
                        spans[rules.get(r).left][i][j] = true;
                    }
                }
            }
        }
        return spans;
    }

    private static Set<Integer> endsOf(boolean[][][] spans, List<Integer> symbols, int from) {
        Set<Integer> places = new TreeSet<>(Set.of(from));
        for (int s : symbols) {
            Set<Integer> next = new TreeSet<>();
            for (int i : places) {
                for (int j = i; j < spans[s].length; j++) {
                    if (spans[s][i][j]) {
                        next.add(j);
                    }
                }
            }
            places = next;
        }
        return places;
    }

    private boolean canRead() {
        return grade() >= 0 && grade() <= 3;
    }

    boolean reads() {
        cutText();
        return canRead() && wrong == GrammarTables.NONE && spans()[3][0][cut.size()];
    }

    /** Whether symbol s derives a list that begins with the tokens from place i on, up to n. */
    private boolean[][] beginnings(boolean[][][] spans, int n) {
        boolean[][] found = new boolean[7][n + 1];
        for (int s = 0; s < 7; s++) {
            found[s][n] = true;
        }
        for (int i = 0; i < n; i++) {
            for (int s = 0; s < 3; s++) {
                found[s][i] = i == n - 1 && cut.get(i)[0] == s;
            }
        }
        for (boolean changed = true; changed;) {
            changed = false;
            for (int r : useful) {
                List<Integer> right = rules.get(r).right;
                for (int i = 0; i < n; i++) {
                    boolean now = endsOf(spans, right, i).contains(n);
                    for (int p = 0; p < right.size(); p++) {
                        for (int j : endsOf(spans, right.subList(0, p), i)) {
                            now |= j <= n && found[right.get(p)][j];
                        }
                    }
                    changed |= now && !found[rules.get(r).left][i];
                    found[rules.get(r).left][i] |= now;
                }
            }
        }
        return found;
    }

    int stopsAt() {
        if (!canRead()) {
            return GrammarTables.NONE;
        }
        cutText();
        boolean[][][] spans = spans();
        for (int n = 1; n <= cut.size(); n++) {
            if (!beginnings(spans, n)[3][0]) {
                return n - 1;
            }
        }
        return cut.size();
    }

    /** The rules in the order of their use, the last variable always replaced first; value of symbol s. */
    private int walk(boolean[][][] spans, int s, int from, int to, List<Integer> order) {
        if (s < 3) {
            return cut.get(from)[1];
        }
        for (int r : useful) {
            List<Integer> right = rules.get(r).right;
            if (rules.get(r).left == s && endsOf(spans, right, from).contains(to)) {
                order.add(r);
                int value = r + 1;
                int end = to;
                for (int p = right.size() - 1; p >= 0; p--) {
                    int begin = beginOf(spans, right, p, from, end);
                    value += (p + 1) * walk(spans, right.get(p), begin, end, order);
                    end = begin;
                }
                return value;
            }
        }
        throw new IllegalStateException("no rule for a span");
    }

    private static int beginOf(boolean[][][] spans, List<Integer> right, int p, int from, int end) {
        for (int i : endsOf(spans, right.subList(0, p), from)) {
            if (i <= end && spans[right.get(p)][i][end]) {
                return i;
            }
        }
        throw new IllegalStateException("no begin for a span");
    }

    int uses() {
        if (!reads()) {
            return GrammarTables.NONE;
        }
        List<Integer> order = new ArrayList<>();
        walk(spans(), 3, 0, cut.size(), order);
        return order.size();
    }

    int used(int i) {
        if (!reads()) {
            return GrammarTables.NONE;
        }
        List<Integer> order = new ArrayList<>();
        walk(spans(), 3, 0, cut.size(), order);
        return i < 0 || i > 199 || i >= order.size() ? GrammarTables.NONE : order.get(order.size() - 1 - i);
    }

    int value() {
        return reads() ? walk(spans(), 3, 0, cut.size(), new ArrayList<>()) : 0;
    }
}

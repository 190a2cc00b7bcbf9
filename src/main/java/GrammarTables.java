public final class GrammarTables {
    public static final int BAD_ARG = -1;
    public static final int FULL = -2;
    public static final int TOO_FEW = -3;
    public static final int NONE = -4;
    public static final int LARGE = -5;

    private static final int LETTERS = 3;
    private static final int KINDS = 3;

    private static final int STACK_MAX = 8;
    private static final int PATTERNS_MAX = 60;
    private static final int SPOTS_MAX = 6;
    // A pattern is kept as an automaton without empty steps: its spots are the
    // places of letter and any in it, 0 to 5, and START is the spot before all.
    private static final int START = 6;
    private static final int SPOTS = 7;
    // The slots of the stack, and then one for each kind.
    private static final int SLOTS = STACK_MAX + KINDS;
    private static final int ARROWS_LENGTH = SLOTS * SPOTS;
    private static final int TAKERS_LENGTH = SLOTS * LETTERS;
    private static final int SPOT_SETS = 128;
    private static final int SPOT_SET_BITS = 7;

    private static final int TEXT_MAX = 24;

    private static final int RULES_MAX = 9;
    private static final int FIRST_RULE = RULES_MAX;
    private static final int RIGHT_MAX = 4;
    // The right being made is kept as if it were a rule behind the first one.
    private static final int MAKING = FIRST_RULE + 1;
    private static final int RULE_SLOTS = MAKING + 1;
    private static final int RIGHTS_LENGTH = RULE_SLOTS * RIGHT_MAX;
    private static final int SYMBOLS = 7;
    private static final int VARIABLES = SYMBOLS - KINDS;
    private static final int GOAL = 3;
    // The first rule's left, a symbol that no rule can name.
    private static final int FIRST_LEFT = SYMBOLS;
    private static final int LEFTS = FIRST_LEFT + 1;
    private static final int KIND_BITS = 7;
    private static final int EMPTY_BIT = 8;
    private static final int END = 3;
    private static final int END_BIT = 8;
    private static final int LOOKS = 4;
    // Four variables times four members of a set: a round of a search for the
    // least such sets that adds nothing comes after at most so many.
    private static final int SET_ROUNDS = VARIABLES * LOOKS;

    // Item r * PLACES + p is rule r with place p, so a set of items is a long.
    private static final int PLACES = RIGHT_MAX + 1;
    private static final int FIRST_ITEM = FIRST_RULE * PLACES;
    private static final int ITEMS = FIRST_ITEM + 2;
    private static final int COMPLETE = SYMBOLS;
    private static final int NEXTS = COMPLETE + 1;

    private static final int STATES_MAX = 60;
    private static final int WIDE_MAX = 80;
    private static final int NO_STEP = -1;
    private static final int STATE_STEPS_LENGTH = STATES_MAX * SYMBOLS;
    private static final int STATE_LOOKS_LENGTH = STATES_MAX * LOOKS;
    private static final int WIDE_STEPS_LENGTH = WIDE_MAX * SYMBOLS;
    // One place more, in which the wide state is made that may prove to be new.
    private static final int WIDE_LOOKS_LENGTH = (WIDE_MAX + 1) * LOOKS;
    // Every round but the last gives some item of some state one look more.
    private static final int SPREAD_ROUNDS = STATES_MAX * ITEMS * LOOKS + 1;

    // Between two tokens no state can stand twice on the stack (the reader would
    // then go round without end, and it can't where the grade is 0 to 3), so it
    // never holds more than 24 tokens and 25 times 80 variables.
    private static final int READ_MAX = 2048;
    private static final int MOVES_MAX = 1000000;
    private static final int USED_MAX = 200;

    private int depth = 0;
    private int made = 0;
    private final int[] spotCounts = new int[SLOTS];
    // The spots that a word may end at; START among them if the empty word matches.
    private final int[] ends = new int[SLOTS];
    private final int[] arrows = new int[ARROWS_LENGTH];
    private final int[] takers = new int[TAKERS_LENGTH];
    private final int[] groups = new int[SPOT_SETS];
    private final int[] marks = new int[SPOT_SETS];

    private final int[] text = new int[TEXT_MAX];
    private int textLength = 0;
    private final int[] tokenKinds = new int[TEXT_MAX];
    private final int[] tokenLengths = new int[TEXT_MAX];
    private int tokenCount = 0;
    private int wrongPlace = NONE;

    private final int[] lefts = new int[RULE_SLOTS];
    private final int[] rights = new int[RIGHTS_LENGTH];
    private final int[] rightSizes = new int[RULE_SLOTS];
    private int ruleCount = 0;

    // What is below, up to the grade, is told by the rules alone; it is found
    // when it is first asked for after the rules have changed.
    private boolean prepared = false;
    private int rulesInUse = 0;
    private final int[] beginSets = new int[SYMBOLS];
    private final int[] followSets = new int[LEFTS];
    private final long[] nextItems = new long[NEXTS];
    private final long[] openItems = new long[SYMBOLS];
    // The items whose symbols behind the next one can begin with kind 0 to 2,
    // and, at END, those for which these symbols can be empty.
    private final long[] restItems = new long[LOOKS];
    private int stateCount = NONE;
    private final long[] stateItems = new long[STATES_MAX];
    private final int[] stateSteps = new int[STATE_STEPS_LENGTH];
    private final long[] stateLooks = new long[STATE_LOOKS_LENGTH];
    private int wideCount = NONE;
    private final int[] wideSteps = new int[WIDE_STEPS_LENGTH];
    private final long[] wideLooks = new long[WIDE_LOOKS_LENGTH];
    private int gradeFound = NONE;

    private final int[] readStates = new int[READ_MAX];
    private final int[] readValues = new int[READ_MAX];
    private int readHeight = 0;
    private int tokensTaken = 0;
    private int usedCount = 0;
    private final int[] usedRules = new int[USED_MAX];

    public GrammarTables() {
        lefts[FIRST_RULE] = FIRST_LEFT;
        rights[FIRST_RULE * RIGHT_MAX] = GOAL;
        rightSizes[FIRST_RULE] = 1;
    }

    // ---- patterns

    public int leaf(int op) {
        if (op < 0 || op > 4) {
            return BAD_ARG;
        }
        if (made >= PATTERNS_MAX || depth >= STACK_MAX) {
            return FULL;
        }
        clearSlot(depth);
        if (op == 4) {
            ends[depth] = 1 << START;
        } else {
            setSingleSpot(depth, op);
        }
        made++;
        depth++;
        return depth;
    }

    public int repeat(int op) {
        if (op < 0 || op > 2) {
            return BAD_ARG;
        }
        if (made >= PATTERNS_MAX) {
            return FULL;
        }
        if (depth < 1) {
            return TOO_FEW;
        }
        int top = depth - 1;
        if (op != 2) {
            addArrows(top, ends[top], arrows[top * SPOTS + START]);
        }
        if (op != 1) {
            ends[top] |= 1 << START;
        }
        made++;
        return depth;
    }

    public int join(int op) {
        if (op < 0 || op > 1) {
            return BAD_ARG;
        }
        if (made >= PATTERNS_MAX) {
            return FULL;
        }
        if (depth < 2) {
            return TOO_FEW;
        }
        if (spotCounts[depth - 2] + spotCounts[depth - 1] > SPOTS_MAX) {
            return FULL;
        }
        joinTops(op == 0);
        made++;
        depth--;
        return depth;
    }

    public int kind(int k) {
        if (k < 0 || k >= KINDS) {
            return BAD_ARG;
        }
        if (depth < 1) {
            return TOO_FEW;
        }
        depth--;
        copySlot(depth, STACK_MAX + k);
        return depth;
    }

    public void patternless() {
        for (int k = 0; k < KINDS; k++) {
            clearSlot(STACK_MAX + k);
        }
        depth = 0;
        made = 0;
    }

    // A cleared slot matches nothing, as a kind without a pattern must.
    private void clearSlot(int slot) {
        spotCounts[slot] = 0;
        ends[slot] = 0;
        for (int p = 0; p < SPOTS; p++) {
            arrows[slot * SPOTS + p] = 0;
        }
        for (int l = 0; l < LETTERS; l++) {
            takers[slot * LETTERS + l] = 0;
        }
    }

    private void copySlot(int from, int to) {
        spotCounts[to] = spotCounts[from];
        ends[to] = ends[from];
        for (int p = 0; p < SPOTS; p++) {
            arrows[to * SPOTS + p] = arrows[from * SPOTS + p];
        }
        for (int l = 0; l < LETTERS; l++) {
            takers[to * LETTERS + l] = takers[from * LETTERS + l];
        }
    }

    private void setSingleSpot(int slot, int op) {
        spotCounts[slot] = 1;
        ends[slot] = 1;
        arrows[slot * SPOTS + START] = 1;
        for (int l = 0; l < LETTERS; l++) {
            takers[slot * LETTERS + l] = op == l || op == LETTERS ? 1 : 0;
        }
    }

    private void addArrows(int slot, int fromSpots, int toSpots) {
        for (int p = 0; p < SPOTS; p++) {
            if (((fromSpots >> p) & 1) == 1) {
                arrows[slot * SPOTS + p] |= toSpots;
            }
        }
    }

    private void joinTops(boolean inOrder) {
        int x = depth - 2;
        int y = depth - 1;
        int shift = spotCounts[x];
        int yBegins = arrows[y * SPOTS + START] << shift;
        int yEmpty = ends[y] & (1 << START);
        int yEnds = (ends[y] ^ yEmpty) << shift;
        for (int p = 0; p < spotCounts[y] && shift + p < START; p++) {
            arrows[x * SPOTS + shift + p] = arrows[y * SPOTS + p] << shift;
        }
        for (int l = 0; l < LETTERS; l++) {
            takers[x * LETTERS + l] |= takers[y * LETTERS + l] << shift;
        }
        if (inOrder) {
            addArrows(x, ends[x], yBegins);
            ends[x] = yEmpty == 0 ? yEnds : ends[x] | yEnds;
        } else {
            addArrows(x, 1 << START, yBegins);
            ends[x] |= yEnds | yEmpty;
        }
        spotCounts[x] += spotCounts[y];
    }

    private int spotsAfter(int slot, int spots, int l) {
        int after = 0;
        for (int p = 0; p < SPOTS; p++) {
            if (((spots >> p) & 1) == 1) {
                after |= arrows[slot * SPOTS + p];
            }
        }
        return after & takers[slot * LETTERS + l];
    }

    // ---- the least automaton of a kind

    public int automaton(int k) {
        if (k < 0 || k >= KINDS) {
            return BAD_ARG;
        }
        int slot = STACK_MAX + k;
        findSpotSets(slot);
        int count = 0;
        for (int round = 0; round < SPOT_SETS; round++) {
            markSpotSets(slot);
            int before = count;
            count = regroupSpotSets();
            if (count == before) {
                break;
            }
        }
        return count;
    }

    // Groups the sets of spots that words lead to by whether they accept; the
    // others are in no group, -1. The marks serve as the list of sets to go on from.
    private void findSpotSets(int slot) {
        for (int set = 0; set < SPOT_SETS; set++) {
            groups[set] = -1;
        }
        int listed = 1;
        marks[0] = 1 << START;
        groups[1 << START] = accepting(slot, 1 << START);
        for (int i = 0; i < listed && i < SPOT_SETS; i++) {
            for (int l = 0; l < LETTERS; l++) {
                int set = spotsAfter(slot, marks[i], l);
                if (groups[set] < 0 && listed < SPOT_SETS) {
                    groups[set] = accepting(slot, set);
                    marks[listed] = set;
                    listed++;
                }
            }
        }
    }

    private int accepting(int slot, int spots) {
        return (spots & ends[slot]) != 0 ? 1 : 0;
    }

    // Two sets stay in one group if their marks, which tell their own group and
    // those that the letters lead to, are the same.
    private void markSpotSets(int slot) {
        for (int set = 0; set < SPOT_SETS; set++) {
            marks[set] = -1;
            if (groups[set] >= 0) {
                int mark = groups[set];
                for (int l = 0; l < LETTERS; l++) {
                    int after = spotsAfter(slot, set, l);
                    mark = (mark << SPOT_SET_BITS) | groups[after];
                }
                marks[set] = mark;
            }
        }
    }

    // A group is named by its least set.
    private int regroupSpotSets() {
        int count = 0;
        for (int set = 0; set < SPOT_SETS; set++) {
            if (groups[set] >= 0) {
                int least = 0;
                while (least < set && marks[least] != marks[set]) {
                    least++;
                }
                groups[set] = least;
                if (least == set) {
                    count++;
                }
            }
        }
        return count;
    }

    // ---- the text and its tokens

    public int letter(int l) {
        if (l < 0 || l >= LETTERS) {
            return BAD_ARG;
        }
        if (textLength >= TEXT_MAX) {
            return FULL;
        }
        text[textLength] = l;
        textLength++;
        return textLength;
    }

    public void textless() {
        textLength = 0;
    }

    public int tokens() {
        cutText();
        return tokenCount;
    }

    public int kindOf(int i) {
        cutText();
        return i < 0 || i >= tokenCount ? NONE : tokenKinds[i];
    }

    public int lengthOf(int i) {
        cutText();
        return i < 0 || i >= tokenCount ? NONE : tokenLengths[i];
    }

    public int wrongAt() {
        cutText();
        return wrongPlace;
    }

    private void cutText() {
        tokenCount = 0;
        wrongPlace = NONE;
        int place = 0;
        for (int n = 0; n < TEXT_MAX && place < textLength; n++) {
            int length = cutToken(place);
            if (length == 0) {
                wrongPlace = place;
                return;
            }
            place += length;
        }
    }

    // Answers the length of the token that begins at the place, 0 if none does.
    private int cutToken(int place) {
        int bestLength = 0;
        int bestKind = 0;
        for (int k = 0; k < KINDS; k++) {
            int length = longestMatch(k, place);
            if (length > bestLength) {
                bestLength = length;
                bestKind = k;
            }
        }
        if (bestLength > 0) {
            tokenKinds[tokenCount] = bestKind;
            tokenLengths[tokenCount] = bestLength;
            tokenCount++;
        }
        return bestLength;
    }

    private int longestMatch(int k, int place) {
        int slot = STACK_MAX + k;
        int spots = 1 << START;
        int longest = 0;
        for (int i = place; i < textLength; i++) {
            spots = spotsAfter(slot, spots, text[i]);
            if ((spots & ends[slot]) != 0) {
                longest = i + 1 - place;
            }
        }
        return longest;
    }

    // ---- rules

    public int symbol(int s) {
        if (s < 0 || s >= SYMBOLS) {
            return BAD_ARG;
        }
        int size = rightSizes[MAKING];
        if (size >= RIGHT_MAX) {
            return FULL;
        }
        rights[MAKING * RIGHT_MAX + size] = s;
        rightSizes[MAKING] = size + 1;
        return size + 1;
    }

    public int rule(int v) {
        if (v < KINDS || v >= SYMBOLS) {
            return BAD_ARG;
        }
        if (ruleCount >= RULES_MAX) {
            return FULL;
        }
        int r = ruleCount;
        lefts[r] = v;
        rightSizes[r] = rightSizes[MAKING];
        for (int j = 0; j < RIGHT_MAX; j++) {
            rights[r * RIGHT_MAX + j] = rights[MAKING * RIGHT_MAX + j];
        }
        rightSizes[MAKING] = 0;
        ruleCount++;
        prepared = false;
        return r;
    }

    public int unrule() {
        if (ruleCount == 0) {
            return NONE;
        }
        ruleCount--;
        prepared = false;
        return ruleCount;
    }

    public boolean useful(int r) {
        prepare();
        return r >= 0 && r < ruleCount && inUse(r);
    }

    public int begins(int v) {
        if (v < KINDS || v >= SYMBOLS) {
            return BAD_ARG;
        }
        prepare();
        return beginSets[v];
    }

    public int follows(int v) {
        if (v < KINDS || v >= SYMBOLS) {
            return BAD_ARG;
        }
        prepare();
        return followSets[v];
    }

    public int states() {
        prepare();
        return stateCount;
    }

    public int wideStates() {
        prepare();
        return wideCount;
    }

    public int grade() {
        prepare();
        return gradeFound;
    }

    private void prepare() {
        if (prepared) {
            return;
        }
        prepared = true;
        findRulesInUse();
        findBegins();
        findFollows();
        findItems();
        stateCount = NONE;
        wideCount = NONE;
        gradeFound = NONE;
        if (rulesInUse == 1 << FIRST_RULE) {
            return;
        }
        findStates();
        if (stateCount == LARGE) {
            wideCount = LARGE;
            gradeFound = LARGE;
            return;
        }
        findWideStates();
        gradeFound = findGrade();
    }

    // ---- useful rules, begins and follows

    private boolean inUse(int r) {
        return ((rulesInUse >> r) & 1) == 1;
    }

    private int rightSymbols(int r) {
        int symbols = 0;
        for (int j = 0; j < rightSizes[r]; j++) {
            symbols |= 1 << rights[r * RIGHT_MAX + j];
        }
        return symbols;
    }

    private int endingSymbols() {
        int ending = KIND_BITS;
        for (int round = 0; round < VARIABLES; round++) {
            for (int r = 0; r < ruleCount; r++) {
                if ((rightSymbols(r) & ~ending) == 0) {
                    ending |= 1 << lefts[r];
                }
            }
        }
        return ending;
    }

    // The first rule counts as in use always: what follows symbol 3 is told by it.
    private void findRulesInUse() {
        int ending = endingSymbols();
        int reached = ending & (1 << GOAL);
        rulesInUse = 1 << FIRST_RULE;
        for (int round = 0; round < VARIABLES; round++) {
            for (int r = 0; r < ruleCount; r++) {
                int right = rightSymbols(r);
                if (((reached >> lefts[r]) & 1) == 1 && (right & ~ending) == 0) {
                    reached |= right;
                    rulesInUse |= 1 << r;
                }
            }
        }
    }

    private void findBegins() {
        for (int s = 0; s < SYMBOLS; s++) {
            beginSets[s] = s < KINDS ? 1 << s : 0;
        }
        for (int round = 0; round < SET_ROUNDS; round++) {
            for (int r = 0; r < ruleCount; r++) {
                if (inUse(r)) {
                    beginSets[lefts[r]] |= beginsFrom(r, 0);
                }
            }
        }
    }

    private int beginsFrom(int r, int place) {
        int kinds = 0;
        for (int j = place; j < rightSizes[r]; j++) {
            int set = beginSets[rights[r * RIGHT_MAX + j]];
            kinds |= set & KIND_BITS;
            if ((set & EMPTY_BIT) == 0) {
                return kinds;
            }
        }
        return kinds | EMPTY_BIT;
    }

    private void findFollows() {
        for (int s = 0; s < LEFTS; s++) {
            followSets[s] = 0;
        }
        followSets[FIRST_LEFT] = END_BIT;
        for (int round = 0; round <= SET_ROUNDS; round++) {
            for (int r = 0; r <= FIRST_RULE; r++) {
                if (inUse(r)) {
                    addFollows(r);
                }
            }
        }
    }

    private void addFollows(int r) {
        for (int j = 0; j < rightSizes[r]; j++) {
            int rest = beginsFrom(r, j + 1);
            int set = rest & KIND_BITS;
            if ((rest & EMPTY_BIT) != 0) {
                set |= followSets[lefts[r]];
            }
            followSets[rights[r * RIGHT_MAX + j]] |= set;
        }
    }

    // ---- items, states and wide states

    private void findItems() {
        for (int s = 0; s < NEXTS; s++) {
            nextItems[s] = 0;
        }
        for (int s = 0; s < SYMBOLS; s++) {
            openItems[s] = 0;
        }
        for (int t = 0; t < LOOKS; t++) {
            restItems[t] = 0;
        }
        for (int r = 0; r <= FIRST_RULE; r++) {
            if (inUse(r)) {
                addItems(r);
            }
        }
    }

    private void addItems(int r) {
        if (r != FIRST_RULE) {
            openItems[lefts[r]] |= 1L << (r * PLACES);
        }
        for (int p = 0; p < rightSizes[r]; p++) {
            long item = 1L << (r * PLACES + p);
            nextItems[rights[r * RIGHT_MAX + p]] |= item;
            int rest = beginsFrom(r, p + 1);
            for (int t = 0; t < LOOKS; t++) {
                if (((rest >> t) & 1) == 1) {
                    restItems[t] |= item;
                }
            }
        }
        nextItems[COMPLETE] |= 1L << (r * PLACES + rightSizes[r]);
    }

    private void findStates() {
        stateItems[0] = closureOf(1L << FIRST_ITEM);
        stateCount = 1;
        for (int s = 0; s < stateCount && s < STATES_MAX; s++) {
            for (int x = 0; x < SYMBOLS; x++) {
                long moved = (stateItems[s] & nextItems[x]) << 1;
                int target = NO_STEP;
                if (moved != 0) {
                    target = stateOf(moved);
                    if (target == STATES_MAX) {
                        stateCount = LARGE;
                        return;
                    }
                }
                stateSteps[s * SYMBOLS + x] = target;
            }
        }
    }

    private long closureOf(long items) {
        long closed = items;
        for (int round = 0; round < VARIABLES; round++) {
            for (int v = KINDS; v < SYMBOLS; v++) {
                if ((closed & nextItems[v]) != 0) {
                    closed |= openItems[v];
                }
            }
        }
        return closed;
    }

    // Answers STATES_MAX, and adds nothing, if the state would be one too many.
    private int stateOf(long moved) {
        long items = closureOf(moved);
        for (int s = 0; s < stateCount; s++) {
            if (stateItems[s] == items) {
                return s;
            }
        }
        if (stateCount >= STATES_MAX) {
            return STATES_MAX;
        }
        stateItems[stateCount] = items;
        stateCount++;
        return stateCount - 1;
    }

    private void findWideStates() {
        for (int t = 0; t < LOOKS; t++) {
            wideLooks[t] = t == END ? 1L << FIRST_ITEM : 0;
        }
        closeLooks(wideLooks, 0);
        wideCount = 1;
        for (int w = 0; w < wideCount && w < WIDE_MAX; w++) {
            for (int x = 0; x < SYMBOLS; x++) {
                int target = NO_STEP;
                if (moveWide(w, x)) {
                    closeLooks(wideLooks, wideCount * LOOKS);
                    target = wideStateMade();
                    if (target == WIDE_MAX) {
                        wideCount = LARGE;
                        return;
                    }
                }
                wideSteps[w * SYMBOLS + x] = target;
            }
        }
    }

    // Begins the next wide state with what moves over x; false if nothing does.
    private boolean moveWide(int w, int x) {
        long all = 0;
        for (int t = 0; t < LOOKS; t++) {
            long moved = (wideLooks[w * LOOKS + t] & nextItems[x]) << 1;
            wideLooks[wideCount * LOOKS + t] = moved;
            all |= moved;
        }
        return all != 0;
    }

    // Answers WIDE_MAX, and adds nothing, if the state made is one too many.
    private int wideStateMade() {
        for (int w = 0; w < wideCount; w++) {
            int t = 0;
            while (t < LOOKS && wideLooks[w * LOOKS + t] == wideLooks[wideCount * LOOKS + t]) {
                t++;
            }
            if (t == LOOKS) {
                return w;
            }
        }
        if (wideCount >= WIDE_MAX) {
            return WIDE_MAX;
        }
        wideCount++;
        return wideCount - 1;
    }

    // looks[base + t] is the set of the items that have look t.
    private void closeLooks(long[] looks, int base) {
        boolean changed = true;
        for (int round = 0; round <= SET_ROUNDS && changed; round++) {
            changed = false;
            for (int v = KINDS; v < SYMBOLS; v++) {
                int opened = looksOpened(looks, base, v);
                for (int t = 0; t < LOOKS; t++) {
                    if (((opened >> t) & 1) == 1 && (openItems[v] & ~looks[base + t]) != 0) {
                        looks[base + t] |= openItems[v];
                        changed = true;
                    }
                }
            }
        }
    }

    private int looksOpened(long[] looks, int base, int v) {
        int opened = 0;
        long all = 0;
        for (int t = 0; t < LOOKS; t++) {
            long here = looks[base + t] & nextItems[v];
            all |= here;
            if ((here & restItems[END]) != 0) {
                opened |= 1 << t;
            }
        }
        for (int k = 0; k < KINDS; k++) {
            if ((all & restItems[k]) != 0) {
                opened |= 1 << k;
            }
        }
        return opened;
    }

    // ---- the grade

    // The grades differ only in the looks that a state's complete items are given.
    // Those of grade 2 are left in the states, for the reader.
    private int findGrade() {
        for (int t = 0; t < LOOKS; t++) {
            setStateLooks(t, -1L);
        }
        boolean holds0 = !clashes(stateLooks, stateCount);
        for (int t = 0; t < LOOKS; t++) {
            long followed = followedItems(t);
            setStateLooks(t, followed);
        }
        boolean holds1 = !clashes(stateLooks, stateCount);
        spreadLooks();
        boolean holds2 = !clashes(stateLooks, stateCount);
        if (holds0) {
            return 0;
        }
        if (holds1) {
            return 1;
        }
        if (holds2) {
            return 2;
        }
        if (wideCount == LARGE) {
            return LARGE;
        }
        return clashes(wideLooks, wideCount) ? 4 : 3;
    }

    private void setStateLooks(int t, long items) {
        for (int s = 0; s < stateCount; s++) {
            stateLooks[s * LOOKS + t] = stateItems[s] & items;
        }
    }

    // All items but the complete ones whose left look t does not follow.
    private long followedItems(int t) {
        long followed = ~nextItems[COMPLETE];
        for (int r = 0; r <= FIRST_RULE; r++) {
            if (inUse(r) && ((followSets[lefts[r]] >> t) & 1) == 1) {
                followed |= 1L << (r * PLACES + rightSizes[r]);
            }
        }
        return followed;
    }

    // Finds the looks of the items in the states without the wide states, which
    // may be too many: a look comes to an item along the steps of the states.
    private void spreadLooks() {
        for (int t = 0; t < LOOKS; t++) {
            setStateLooks(t, 0);
        }
        stateLooks[END] = 1L << FIRST_ITEM;
        boolean changed = true;
        for (int round = 0; round < SPREAD_ROUNDS && changed; round++) {
            changed = false;
            for (int s = 0; s < stateCount; s++) {
                closeLooks(stateLooks, s * LOOKS);
                if (passLooks(s)) {
                    changed = true;
                }
            }
        }
    }

    private boolean passLooks(int s) {
        boolean changed = false;
        for (int x = 0; x < SYMBOLS; x++) {
            int target = stateSteps[s * SYMBOLS + x];
            for (int t = 0; t < LOOKS && target != NO_STEP; t++) {
                long moved = (stateLooks[s * LOOKS + t] & nextItems[x]) << 1;
                if ((moved & ~stateLooks[target * LOOKS + t]) != 0) {
                    stateLooks[target * LOOKS + t] |= moved;
                    changed = true;
                }
            }
        }
        return changed;
    }

    private boolean clashes(long[] looks, int count) {
        for (int s = 0; s < count; s++) {
            for (int t = 0; t < LOOKS; t++) {
                if (clashesAt(looks, s * LOOKS, t)) {
                    return true;
                }
            }
        }
        return false;
    }

    private boolean clashesAt(long[] looks, int base, int t) {
        long complete = looks[base + t] & nextItems[COMPLETE];
        if ((complete & (complete - 1)) != 0) {
            return true;
        }
        if (complete == 0 || t == END) {
            return false;
        }
        long all = 0;
        for (int u = 0; u < LOOKS; u++) {
            all |= looks[base + u];
        }
        return (all & nextItems[t]) != 0;
    }

    // ---- reading the text

    public boolean reads() {
        prepare();
        return readText() && wrongPlace == NONE;
    }

    public int stopsAt() {
        prepare();
        if (!canRead()) {
            return NONE;
        }
        readText();
        return tokensTaken;
    }

    public int uses() {
        prepare();
        return readText() && wrongPlace == NONE ? usedCount : NONE;
    }

    public int used(int i) {
        prepare();
        boolean read = readText() && wrongPlace == NONE;
        return read && i >= 0 && i < usedCount && i < USED_MAX ? usedRules[i] : NONE;
    }

    public int value() {
        prepare();
        return readText() && wrongPlace == NONE ? readValues[readHeight] : 0;
    }

    private boolean canRead() {
        return gradeFound >= 0 && gradeFound <= 3;
    }

    // Whether the tokens, up to where the text is wrong, are a sentence.
    private boolean readText() {
        if (!canRead()) {
            return false;
        }
        cutText();
        if (gradeFound == 3) {
            return readTokens(wideLooks, wideSteps);
        }
        return readTokens(stateLooks, stateSteps);
    }

    // A reader that has a look for each complete item takes no token that can't
    // go on to a sentence, so the tokens taken tell where the text stops.
    private boolean readTokens(long[] looks, int[] steps) {
        readStates[0] = 0;
        readHeight = 0;
        tokensTaken = 0;
        usedCount = 0;
        for (int move = 0; move < MOVES_MAX; move++) {
            int t = tokensTaken < tokenCount ? tokenKinds[tokensTaken] : END;
            long complete = looks[readStates[readHeight] * LOOKS + t] & nextItems[COMPLETE];
            if (complete != 0) {
                int r = ruleOf(complete);
                if (r == FIRST_RULE) {
                    return true;
                }
                if (!useRule(steps, r)) {
                    return false;
                }
            } else {
                if (t == END || !pushSymbol(steps, t, tokenLengths[tokensTaken])) {
                    return false;
                }
                tokensTaken++;
            }
        }
        return false;
    }

    private int ruleOf(long complete) {
        int item = 0;
        while (item < FIRST_ITEM && ((complete >> item) & 1) == 0) {
            item++;
        }
        return item / PLACES;
    }

    private boolean useRule(int[] steps, int r) {
        int below = readHeight - rightSizes[r];
        if (below < 0) {
            return false;
        }
        int sum = r + 1;
        for (int j = 1; j <= rightSizes[r]; j++) {
            sum += j * readValues[below + j];
        }
        readHeight = below;
        if (usedCount < USED_MAX) {
            usedRules[usedCount] = r;
        }
        usedCount++;
        return pushSymbol(steps, lefts[r], sum);
    }

    private boolean pushSymbol(int[] steps, int s, int symbolValue) {
        int target = steps[readStates[readHeight] * SYMBOLS + s];
        if (target == NO_STEP || readHeight + 1 >= READ_MAX) {
            return false;
        }
        readHeight++;
        readStates[readHeight] = target;
        readValues[readHeight] = symbolValue;
        return true;
    }
}

/** The sentences on states and grades that name an edge: promises 20 to 22 and 28, and what the terms say of them. */
public final class StatesEdgeTest {
    private static final Check CHECK = new Check();
    private static final int NONE = GrammarTables.NONE;
    private static final int LARGE = GrammarTables.LARGE;

    /** The states, wide states and grade that a grammar has, whatever the limits let the program tell of them. */
    record Limit(int states, int wideStates, int grade, String rules) { }

    /** 60 and 61 states, with 80 and 81 wide states and with fewer. */
    private static final Limit[] STATES = {
        new Limit(60, 68, 0, "3023 4025 523 60210 42254 32263 624 6256 301"),
        new Limit(60, 68, 1, "310 41113 520 61142 51600 31603 3151 44603 32"),
        new Limit(60, 70, 2, "32650 4212 51250 61304 62116 5230 3150 31130 54"),
        new Limit(60, 69, 3, "36143 41511 52212 61511 42460 34210 51451 41601 62212"),
        new Limit(60, 64, 4, "31 4513 51516 65153 603 506 3563 61513 55564"),
        new Limit(60, 80, 0, "3023 40256 523 6021 42254 32262 624 6253 301"),
        new Limit(60, 80, 1, "312 46522 51111 61114 3613 36344 4152 31664 310"),
        new Limit(60, 80, 2, "30423 4000 53320 62001 5241 4260 323 32060 60512"),
        new Limit(60, 80, 4, "30052 40364 516 60040 4344 50066 3 4301 620"),
        new Limit(60, 81, 0, "3053 40253 5233 6024 42254 32263 6436 62503 300"),
        new Limit(60, 81, 1, "3004 41102 5060 60012 40035 3305 40345 315 5335"),
        new Limit(60, 81, 2, "3050 40451 50032 62603 60243 4203 5201 5050 360"),
        new Limit(60, 81, 4, "3000 42046 5003 623 44256 646 52045 3650 4005"),
        new Limit(61, 61, 0, "356 42154 52221 6252 51524 613 55154 41552 346"),
        new Limit(61, 63, 1, "3161 414 51134 61152 606 40105 40420 5361 500"),
        new Limit(61, 71, 2, "32241 4100 5325 621 42650 5232 62250 33361 421"),
        new Limit(61, 64, 4, "32 40233 54 6225 52455 42226 55356 60233 343"),
        new Limit(61, 80, 0, "3053 40256 523 6024 42254 32263 6436 62530 3001"),
        new Limit(61, 80, 1, "30050 416 56213 60004 40626 61202 4342 30120 5335"),
        new Limit(61, 80, 2, "30061 4050 5511 61212 5121 60041 4254 50030 6461"),
        new Limit(61, 80, 4, "30052 40364 5544 60040 4340 50066 3 4303 660"),
        new Limit(61, 81, 0, "3023 40256 523 6021 42254 32263 624 62531 301"),
        new Limit(61, 81, 1, "30502 40451 5003 62603 60245 42030 5201 5050 360"),
        new Limit(61, 81, 2, "3020 42225 5404 62050 32220 361 50250 52313 32400"),
        new Limit(61, 81, 4, "30051 40364 5565 6004 4343 50066 3 4300 660"),
    };

    /** 80 and 81 wide states, with few states. */
    private static final Limit[] WIDE = {
        new Limit(20, 80, 0, "30400 31502 305 31454 42 5143 353"),
        new Limit(23, 80, 1, "30406 3150 3051 314 42 50633 653 54244"),
        new Limit(20, 80, 2, "3040 31504 3051 31413 42 53533 54"),
        new Limit(22, 80, 3, "30445 3150 30513 31414 42 52 40213"),
        new Limit(23, 80, 4, "3040 3150 3051 3141 42 52 32562 34661 63"),
        new Limit(27, 81, 0, "3040 315 3051 31416 42 5142 34323 56655 6050"),
        new Limit(20, 81, 1, "3040 3150 30520 3141 42 522 53553 6032 63"),
        new Limit(24, 81, 2, "3040 32500 30514 3141 42 52 403 51254 44063"),
        new Limit(21, 81, 3, "3040 31502 3051 31410 42 533 55644 50522 52"),
        new Limit(19, 81, 4, "3040 315 30511 31412 42 52 43443"),
    };

    public static void main(String[] args) {
        casesAreAtTheirEdges();
        statesLarge();
        statesNone();
        fewestStates();
        wideStatesLarge();
        wideStatesLargeByStates();
        wideStatesNone();
        gradeNone();
        gradeLargeByStates();
        gradeLargeByWideStates();
        gradeToTwoWithoutWideStates();
        largeChangesNothing();
        emptyRightIsComplete();
        gradeZero();
        gradeOne();
        gradeTwoToFour();
        endIsNotSymbolThree();
        questionsChangeNothing();
        CHECK.end();
    }

    private static void due(String call, long got, long want) {
        CHECK.due(call, got, want);
    }

    private static GrammarTables load(String digits) {
        return Grammars.load(Grammars.rules(digits));
    }

    private static void dueGrade(String name, String digits, int grade) {
        due(name + " " + digits + " grade", load(digits).grade(), grade);
    }

    // The limits themselves hide what a grammar beyond them has; the slow tables do not.
    private static void casesAreAtTheirEdges() {
        Limit[][] all = {STATES, WIDE};
        for (Limit[] limits : all) {
            for (Limit limit : limits) {
                SlowTables slow = new SlowTables();
                for (int[] rule : Grammars.rules(limit.rules)) {
                    for (int j = 1; j < rule.length; j++) {
                        slow.symbol(rule[j]);
                    }
                    slow.rule(rule[0]);
                }
                due("states of " + limit.rules, slow.narrowSize(), limit.states);
                due("wide states of " + limit.rules, slow.wideSize(), limit.wideStates);
                due("grade of " + limit.rules, slow.gradeWithoutLimits(), limit.grade);
            }
        }
    }

    // ---- promise 20

    private static void statesLarge() {
        CHECK.says("Promise 20: The number of states; LARGE (more than 60 states)");
        for (Limit limit : STATES) {
            due(limit.rules, load(limit.rules).states(), limit.states == 61 ? LARGE : 60);
        }
        for (Limit limit : WIDE) {
            due(limit.rules, load(limit.rules).states(), limit.states);
        }
    }

    /** Grammars in which no rule is useful. */
    private static GrammarTables[] withoutUsefulRules() {
        return new GrammarTables[] {new GrammarTables(), load("40"), load("33"), load("303 3313"), load("304 45 54"),
            load("4 5 6"), load("36 40 50")};
    }

    private static void statesNone() {
        CHECK.says("Promise 20: NONE if no rule is useful");
        for (GrammarTables x : withoutUsefulRules()) {
            due("states", x.states(), NONE);
        }
        GrammarTables x = load("3");
        x.states();
        x.unrule();
        due("the only rule taken away", x.states(), NONE);
    }

    private static void fewestStates() {
        CHECK.says("STATES are the closure of the first rule's item at place 0, and all sets, not empty, by steps");
        due("an empty right", load("3").states(), 2);
        due("a right of one", load("30").states(), 3);
        due("a right of four", load("30120").states(), 6);
        due("useless rules beside it", load("3 40 353 55").states(), 2);
        due("the same right twice", load("30 30").states(), 3);
        due("a symbol that steps twice", load("3000").states(), 5);
    }

    // ---- promise 21

    private static void wideStatesLarge() {
        CHECK.says("Promise 21: The number of wide states; LARGE if there are more than 80");
        for (Limit limit : WIDE) {
            due(limit.rules, load(limit.rules).wideStates(), limit.wideStates == 81 ? LARGE : 80);
        }
        for (Limit limit : STATES) {
            if (limit.states == 60) {
                due(limit.rules, load(limit.rules).wideStates(), limit.wideStates == 81 ? LARGE : limit.wideStates);
            }
        }
    }

    private static void wideStatesLargeByStates() {
        CHECK.says("Promise 21: LARGE if .. states answers LARGE");
        for (Limit limit : STATES) {
            if (limit.states == 61) {
                due(limit.wideStates + " of " + limit.rules, load(limit.rules).wideStates(), LARGE);
            }
        }
    }

    private static void wideStatesNone() {
        CHECK.says("Promise 21: NONE if no rule is useful");
        for (GrammarTables x : withoutUsefulRules()) {
            due("wideStates", x.wideStates(), NONE);
        }
    }

    // ---- promise 22

    private static void gradeNone() {
        CHECK.says("Promise 22: NONE if no rule is useful");
        for (GrammarTables x : withoutUsefulRules()) {
            due("grade", x.grade(), NONE);
        }
    }

    private static void gradeLargeByStates() {
        CHECK.says("Promise 22: LARGE if states answers it");
        for (Limit limit : STATES) {
            if (limit.states == 61) {
                due(limit.grade + " of " + limit.rules, load(limit.rules).grade(), LARGE);
            } else if (limit.wideStates <= 80) {
                due(limit.rules, load(limit.rules).grade(), limit.grade);
            }
        }
    }

    private static void gradeLargeByWideStates() {
        CHECK.says("Promise 22: LARGE if .. 0 to 2 do not hold and wideStates answers it");
        Limit[][] all = {STATES, WIDE};
        for (Limit[] limits : all) {
            for (Limit limit : limits) {
                if (limit.states <= 60 && limit.grade > 2) {
                    int want = limit.wideStates == 81 ? LARGE : limit.grade;
                    due(limit.rules, load(limit.rules).grade(), want);
                }
            }
        }
    }

    private static void gradeToTwoWithoutWideStates() {
        CHECK.says("Promise 22: (where 0, 1 or 2 holds, it is the grade though wideStates answers LARGE)");
        Limit[][] all = {STATES, WIDE};
        for (Limit[] limits : all) {
            for (Limit limit : limits) {
                if (limit.states <= 60 && limit.grade <= 2 && limit.wideStates == 81) {
                    GrammarTables x = load(limit.rules);
                    due(limit.rules + " grade", x.grade(), limit.grade);
                    due(limit.rules + " wideStates", x.wideStates(), LARGE);
                }
            }
        }
    }

    private static void largeChangesNothing() {
        CHECK.says("A refused call answers the code named and changes nothing (LARGE)");
        for (Limit limit : STATES) {
            if (limit.states == 61) {
                GrammarTables x = load(limit.rules);
                int[][] rules = Grammars.rules(limit.rules);
                for (int n = 0; n < 2; n++) {
                    due("states", x.states(), LARGE);
                    due("wideStates", x.wideStates(), LARGE);
                    due("grade", x.grade(), LARGE);
                }
                CHECK.due("useful(0)", x.useful(0), true);
                due("rules that are left", x.unrule(), 8);
                dueAsFresh(x, rules, 8);
                due("the rule again", Grammars.add(x, rules[8]), 8);
                due("states again", x.states(), LARGE);
                due("rules that are left again", x.unrule(), 8);
                dueAsFresh(x, rules, 8);
            }
        }
    }

    private static void dueAsFresh(GrammarTables x, int[][] rules, int count) {
        GrammarTables fresh = new GrammarTables();
        for (int r = 0; r < count; r++) {
            Grammars.add(fresh, rules[r]);
        }
        due("states without the last rule", x.states(), fresh.states());
        due("wideStates without the last rule", x.wideStates(), fresh.wideStates());
        due("grade without the last rule", x.grade(), fresh.grade());
    }

    // ---- the terms

    private static void emptyRightIsComplete() {
        CHECK.says("An ITEM is a rule with a place 0 to n in its right of n symbols; it is COMPLETE at place n");
        dueGrade("an empty right alone", "3", 0);
        dueGrade("an empty right beside a kind", "3 30", 1);
        dueGrade("an empty right beside another", "3 3", 4);
        dueGrade("a right of four, complete beside a right that goes on", "30000 34 40000 41", 4);
        dueGrade("a right of three beside one of four", "3000 30000", 1);
        dueGrade("a right of three and one of four apart", "3000 31000", 0);
    }

    private static void gradeZero() {
        CHECK.says("0: in no state is there a complete item together with another complete one or one with a kind next");
        dueGrade("apart", "3041 3152 42 52", 0);
        dueGrade("two complete ones", "340 351 42 52", 1);
        dueGrade("a complete one and a kind", "340 321 42", 1);
        dueGrade("an empty one and a kind", "3041 3052 4 50", 1);
        dueGrade("the first rule's item and a kind", "330 31", 1);
        dueGrade("the first rule's item and another complete one", "34 43 4", 4);
    }

    private static void gradeOne() {
        CHECK.says("1: in no state is there a look t for which two complete items have t following their lefts, or one "
            + "has and an item's next symbol is t");
        dueGrade("following apart", "340 351 42 52", 1);
        dueGrade("the end for one, a kind for the other", "34 351 42 52", 1);
        dueGrade("a kind for both, by what follows only", "3041 3052 3142 42 52", 2);
        dueGrade("a kind for both", "3041 3051 42 52", 4);
        dueGrade("the end for both", "34 35 42 52", 4);
        dueGrade("the kind that is next, by what follows only", "3405 35 415 42 54", 2);
        dueGrade("the kind that is next", "340 301 4", 4);
        CHECK.says("(for the first rule's item the end follows only)");
        due("0 follows 3", load("330 3").follows(3), 1 + 8);
        dueGrade("0 behind 3", "330 3", 1);
    }

    private static void gradeTwoToFour() {
        CHECK.says("2: the same with the looks of the items in the state; 3: for every wide state; 4: none of these");
        dueGrade("following mixes, looks do not", "3405 35 415 42 54", 2);
        dueGrade("looks mix in states, not in wide states", "3040 3150 3051 3141 42 52", 3);
        dueGrade("looks mix in a wide state", "3040 3150 3051 3141 42 52 3050", 4);
        // the same items in states that were found one after the other, with looks that come late
        dueGrade("looks that come late", "3340 431 3", 4);
        dueGrade("looks that come late", "3341 4320 3", 4);
        dueGrade("looks that come late", "33341 432 3", 4);
        dueGrade("looks that come late", "3340 43222 32", 4);
        dueGrade("looks that come late", "3411 432 541 405 4", 4);
        dueGrade("looks that come late", "3332 432 31402 32012", 4);
    }

    // ---- promise 28

    private static void endIsNotSymbolThree() {
        CHECK.says("Promise 28: look 3 is the end and not symbol 3, so an item's next symbol is t only when t is a kind");
        // behind 4 stand 3 becomes 4, complete at the end, and 3 becomes 4 3, with the next symbol 3
        dueGrade("3 is next behind 4", "343 34 40", 1);
        // at the begin the first rule's next symbol is 3, and 3 becomes nothing, at the end
        dueGrade("3 is next at the begin, 0", "3", 0);
        dueGrade("3 is next at the begin, 1", "3 30", 1);
        dueGrade("3 is next at the begin, 2", "3405 35 415 42 54 3", 2);
        dueGrade("3 is next at the begin, 3", "3040 3150 3051 3141 42 52 3", 3);
    }

    private static void questionsChangeNothing() {
        CHECK.says("Promises 20 to 22 ask, and change nothing");
        Edge.NONE.leftAlone(CHECK, "states()", x -> x.states(), load("343 3 40 41 42").states());
        Edge.NONE.leftAlone(CHECK, "wideStates()", x -> x.wideStates(), load("343 3 40 41 42").wideStates());
        Edge.NONE.leftAlone(CHECK, "grade()", x -> x.grade(), 1);
        Edge.EMPTY.leftAlone(CHECK, "states()", x -> x.states(), NONE);
        Edge.EMPTY.leftAlone(CHECK, "wideStates()", x -> x.wideStates(), NONE);
        Edge.EMPTY.leftAlone(CHECK, "grade()", x -> x.grade(), NONE);
    }
}

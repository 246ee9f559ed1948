/** For each promise of the document: ordinary calls, the edges it names, and wrong arguments. */
public final class EachPromise extends Checks {
    private static void newObject() {
        LabelledFlows x = new LabelledFlows();
        due("1: NONE", LabelledFlows.NONE, -1);
        due("1: verdict", x.verdict(), 0);
        due("1: outcome", x.outcome(), 0);
        due("1: made", x.made(), 0);
        due("1: hits", x.hits(0, 0), 0);
        due("1: finding", x.finding(0, 0), false);
        due("1: may", x.may(0, 0, 0, 0), false);
        for (int i = 0; i < 6; i++) {
            due("1: size", x.size(i), 0);
            due("1: entries", x.entries(i), NONE);
            due("1: points", x.points(i, 0), NONE);
            due("1: cell", x.cell(i, 0), NONE);
        }
        for (int i = 0; i < 12; i++) {
            due("1: target", x.target(i / 3, i % 3), NONE);
        }
        x.bind(0, 0, 1);
        due("1: no parent to take it from", x.target(1, 0), NONE);
        LabelledFlows other = new LabelledFlows();
        due("1: objects share nothing", other.target(0, 0), NONE);
    }

    private static void addPlaces() {
        LabelledFlows x = new LabelledFlows();
        for (int m = 0; m < 6; m++) {
            due("2: first place", x.add(m, CLEAN, m % 4, 0, 0), 0);
            due("2: second place", x.add(m, CLEAN, m % 4, 0, 0), 1);
        }
        for (int bad : new int[] {-1, 6, LOWEST, HIGHEST}) {
            due("2: method " + bad, x.add(bad, CLEAN, 0, 0, 0), NONE);
        }
        for (int bad : new int[] {-1, 11, LOWEST, HIGHEST}) {
            due("2: kind " + bad, x.add(0, bad, 0, 0, 0), NONE);
        }
        for (int m = 0; m < 6; m++) {
            due("2: refused adds nothing", x.size(m), 2);
        }
    }

    /** By kind, how many values each operand has; 0 for one that isn't named. */
    private static final int[][] RANGES = {
        {4, 4, 0}, {4, 0, 0}, {4, 0, 0}, {4, 0, 0}, {4, 4, 0}, {4, 4, 2},
        {4, 4, 2}, {4, 4, 12}, {12, 0, 0}, {12, 0, 0}, {4, 0, 0}
    };

    private static void addOperands() {
        for (int kind = 0; kind <= 10; kind++) {
            for (int operand = 0; operand < 3; operand++) {
                int range = RANGES[kind][operand];
                for (int value : new int[] {-1, LOWEST, HIGHEST, 1, 2, 3, 4, 11, 12, range - 1, range}) {
                    int[] abc = {0, 0, 0};
                    abc[operand] = value;
                    boolean fits = range == 0 || (value >= 0 && value < range);
                    LabelledFlows x = new LabelledFlows();
                    String what = "2: kind " + kind + " operand " + operand + " " + value;
                    due(what, x.add(1, kind, abc[0], abc[1], abc[2]), fits ? 0 : NONE);
                    due(what + ", then size", x.size(1), fits ? 1 : 0);
                }
            }
        }
    }

    private static void addLimitOfKind(int kind, int most) {
        LabelledFlows x = new LabelledFlows();
        for (int i = 0; i < most; i++) {
            due("2: kind " + kind + " below its limit", x.add(i % 6, kind, 0, 0, 0), i / 6);
        }
        for (int m = 0; m < 6; m++) {
            int size = x.size(m);
            due("2: kind " + kind + " beyond its limit", x.add(m, kind, 0, 0, 0), NONE);
            due("2: size then", x.size(m), size);
        }
        due("2: another kind still goes", x.add(5, COPY, 0, 0, 0) >= 0, true);
        x.drop(0);
        due("2: and one for the dropped one", x.add(4, kind, 0, 0, 0) >= 0, true);
        due("2: but no two", x.add(4, kind, 0, 0, 0), NONE);
    }

    private static void addLimits() {
        addLimitOfKind(NEW, 6);
        addLimitOfKind(SOURCE, 4);
        addLimitOfKind(SINK, 4);
        LabelledFlows x = new LabelledFlows();
        for (int i = 0; i < 12; i++) {
            due("2: up to 12 in a method", x.add(2, i % 8 + 3, 0, 0, 0), i);
        }
        due("2: no 13th in a method", x.add(2, COPY, 0, 0, 0), NONE);
        for (int i = 0; i < 20; i++) {
            due("2: up to 32 in all", x.add(3 + i % 2, i % 8 + 3, 0, 0, 0), i / 2);
        }
        due("2: no 33rd in all", x.add(0, COPY, 0, 0, 0), NONE);
        due("2: no 33rd in all", x.add(3, COPY, 0, 0, 0), NONE);
        due("2: drop of one", x.drop(2), true);
        due("2: room for one", x.add(0, COPY, 0, 0, 0), 0);
        due("2: and no more", x.add(2, COPY, 0, 0, 0), NONE);
    }

    private static void dropLast() {
        LabelledFlows x = withMain(SOURCE, 0, 0, 0, SINK, 0, 0, 0, CLEAN, 0, 0, 0);
        for (int bad : new int[] {-1, 6, LOWEST, HIGHEST, 1, 5}) {
            due("3: drop " + bad, x.drop(bad), false);
        }
        due("3: size untouched", x.size(0), 3);
        due("3: drop", x.drop(0), true);
        due("3: size", x.size(0), 2);
        due("3: paths of what is left", x.analyse(HIGHEST), 5);
        due("3: drop", x.drop(0), true);
        due("3: drop", x.drop(0), true);
        due("3: drop of none", x.drop(0), false);
        due("3: size", x.size(0), 0);
        due("3: the next goes to place 0", x.add(0, COPY, 0, 0, 0), 0);
    }

    private static void parents() {
        LabelledFlows x = new LabelledFlows();
        for (int c = -1; c <= 4; c++) {
            for (int p = -3; p <= 5; p++) {
                boolean fits = c >= 0 && c <= 3 && p >= -1 && p < c;
                due("4: derive " + c + " " + p, x.derive(c, p), fits);
            }
        }
        due("4: derive", x.derive(LOWEST, NONE), false);
        due("4: derive", x.derive(HIGHEST, 0), false);
        due("4: derive", x.derive(3, LOWEST), false);
        due("4: derive", x.derive(3, HIGHEST), false);
        x.bind(0, 1, 4);
        x.derive(3, 1);
        x.derive(1, NONE);
        due("4: no parent", x.target(1, 1), NONE);
        x.derive(1, 0);
        due("4: a parent", x.target(1, 1), 4);
        due("4: a parent's parent", x.target(3, 1), 4);
        due("4: refused", x.derive(1, 1), false);
        due("4: and still the former", x.target(1, 1), 4);
        x.derive(3, 2);
        x.derive(2, NONE);
        due("4: another parent", x.target(3, 1), NONE);
    }

    private static void bindings() {
        LabelledFlows x = new LabelledFlows();
        for (int c = -1; c <= 4; c++) {
            for (int g = -1; g <= 3; g++) {
                for (int m = -2; m <= 6; m++) {
                    boolean fits = c >= 0 && c <= 3 && g >= 0 && g <= 2 && m >= -1 && m <= 5;
                    due("5: bind " + c + " " + g + " " + m, x.bind(c, g, m), fits);
                    if (fits) {
                        due("5: bound " + c + " " + g, x.target(c, g), m);
                    }
                }
            }
        }
        for (int extreme : new int[] {LOWEST, HIGHEST}) {
            due("5: bind", x.bind(extreme, 0, 0), false);
            due("5: bind", x.bind(0, extreme, 0), false);
            due("5: bind", x.bind(0, 0, extreme), false);
        }
        due("5: a refused call leaves it", x.target(0, 0), 5);
    }

    private static void targets() {
        LabelledFlows x = new LabelledFlows();
        x.derive(1, 0);
        x.derive(2, 1);
        x.derive(3, 2);
        x.bind(0, 0, 0);
        x.bind(2, 0, 3);
        x.bind(1, 2, 5);
        due("6: own", x.target(0, 0), 0);
        due("6: the parent's", x.target(1, 0), 0);
        due("6: own before the parent's", x.target(2, 0), 3);
        due("6: the nearest", x.target(3, 0), 3);
        due("6: two up", x.target(3, 2), 5);
        due("6: parents don't take from children", x.target(0, 2), NONE);
        due("6: another message", x.target(3, 1), NONE);
        x.bind(2, 0, NONE);
        due("6: three up", x.target(3, 0), 0);
        for (int bad : new int[] {-1, 4, LOWEST, HIGHEST}) {
            due("6: class " + bad, x.target(bad, 0), NONE);
        }
        for (int bad : new int[] {-1, 3, LOWEST, HIGHEST}) {
            due("6: message " + bad, x.target(0, bad), NONE);
        }
    }

    private static void sizes() {
        LabelledFlows x = withMain(CLEAN, 0, 0, 0, CLEAN, 1, 0, 0);
        with(x, 5, CLEAN, 0, 0, 0);
        due("7: size", x.size(0), 2);
        due("7: size", x.size(5), 1);
        due("7: size", x.size(3), 0);
        for (int bad : new int[] {-1, 6, LOWEST, HIGHEST}) {
            due("7: size " + bad, x.size(bad), 0);
        }
    }

    private static void pathsWithoutCalls() {
        LabelledFlows empty = new LabelledFlows();
        due("8: nothing to do", empty.analyse(1), 1);
        due("8: limit 0", empty.analyse(0), NONE);
        due("8: limit below", empty.analyse(LOWEST), NONE);
        due("8: limit above", empty.analyse(HIGHEST), 1);
        due("8: SOURCE and SINK", withMain(SOURCE, 0, 0, 0, SINK, 0, 0, 0).analyse(5), 5);
        due("8: one too many", withMain(SOURCE, 0, 0, 0, SINK, 0, 0, 0).analyse(4), NONE);
        due("8: COPY to itself", withMain(SOURCE, 0, 0, 0, COPY, 0, 0, 0, SINK, 0, 0, 0).analyse(99), 7);
        due("8: CLEAN", withMain(SOURCE, 0, 0, 0, CLEAN, 0, 0, 0, SINK, 0, 0, 0).analyse(99), 5);
        due("8: CLEAN of another", withMain(SOURCE, 0, 0, 0, CLEAN, 1, 0, 0, SINK, 0, 0, 0).analyse(99), 7);
        due("8: SOURCE over SOURCE", withMain(SOURCE, 0, 0, 0, SOURCE, 0, 0, 0).analyse(99), 5);
        due("8: NEW over SOURCE", withMain(SOURCE, 0, 0, 0, NEW, 0, 0, 0).analyse(99), 4);
        due("8: STORE and LOAD to itself", withMain(NEW, 0, 0, 0, SOURCE, 1, 0, 0, STORE, 0, 1, 0,
                LOAD, 0, 0, 0, SINK, 0, 0, 0).analyse(99), 15);
        due("8: RETURN goes nowhere", withMain(CLEAN, 0, 0, 0, RETURN, 0, 0, 0).analyse(99), 2);
        due("8: BRANCH beyond the END", withMain(SOURCE, 0, 0, 0, BRANCH, 11, 0, 0, CLEAN, 0, 0, 0).analyse(99), 7);
        due("8: GOTO beyond the END", withMain(GOTO, 11, 0, 0, SOURCE, 0, 0, 0).analyse(99), 2);
        due("8: GOTO over a SOURCE", withMain(GOTO, 2, 0, 0, SOURCE, 0, 0, 0, SINK, 0, 0, 0).analyse(99), 3);
        due("8: GOTO to itself", withMain(GOTO, 0, 0, 0, SOURCE, 0, 0, 0).analyse(99), 1);
        due("8: BRANCH back", withMain(SINK, 0, 0, 0, SOURCE, 0, 0, 0, BRANCH, 0, 0, 0).analyse(99), 8);
    }

    private static void pathsWithCalls() {
        LabelledFlows lost = withMain(NEW, 0, 0, 0, SOURCE, 1, 0, 0, STORE, 0, 1, 1, CALL, 2, 0, 0);
        due("8: CALL without a target", lost.analyse(99), 9);
        due("8: a field's label before it", lost.may(0, 3, 5, 0), true);
        due("8: and not behind it", lost.may(0, 4, 5, 0), false);
        due("8: a local's behind it", lost.may(0, 4, 1, 0), true);
        lost.bind(0, 0, 3);
        // Into the empty method come ZERO and (0, 0, 1); the latter comes back.
        due("8: CALL of an empty method", lost.analyse(99), 9 + 1 + 2);
        due("8: a field's label comes back", lost.may(0, 4, 5, 0), true);
        due("8: two entry facts", lost.entries(3), 2);

        LabelledFlows end = withMain(NEW, 0, 0, 0, SOURCE, 1, 0, 0, CALL, 1, 0, 1, SINK, 1, 0, 0);
        with(end, 1, STORE, 0, 1, 0);
        end.bind(0, 0, 1);
        due("8: a method that ends at its END", end.analyse(99), 5 + 1 + 2 + 2 + 3);
        due("8: gives no label to local a", end.finding(0, 0), false);
        due("8: but to a field", end.may(0, 3, 4, 0), true);

        LabelledFlows twice = withMain(NEW, 0, 0, 0, SOURCE, 1, 0, 0, CALL, 2, 0, 1, SOURCE, 1, 0, 0,
                CALL, 3, 0, 1, SINK, 2, 0, 0, SINK, 3, 0, 0);
        with(twice, 1, RETURN, 1, 0, 0);
        twice.bind(0, 0, 1);
        due("8: calls are kept apart", twice.analyse(HIGHEST) > 0, true);
        due("8: first to first", twice.finding(0, 0), true);
        due("8: first to second", twice.finding(0, 1), false);
        due("8: second to first", twice.finding(1, 0), false);
        due("8: second to second", twice.finding(1, 1), true);

        LabelledFlows inside = withMain(NEW, 0, 0, 0, CALL, 2, 0, 0, SINK, 2, 0, 0);
        with(inside, 1, SOURCE, 3, 0, 0, RETURN, 3, 0, 0);
        inside.bind(0, 0, 1);
        due("8: a source in a called method", inside.analyse(99), 4 + 2 + 2 + 1);
        due("8: comes back", inside.finding(0, 0), true);
    }

    private static void pathsBothArguments() {
        // The same labelled local is receiver and argument, so both entry facts are given.
        LabelledFlows x = withMain(NEW, 0, 0, 0, SOURCE, 1, 0, 0, STORE, 0, 1, 0, LOAD, 2, 0, 0,
                BRANCH, 6, 0, 0, NEW, 2, 1, 0, CALL, 2, 2, 10, SINK, 2, 0, 0);
        with(x, 4, SINK, 0, 0, 0, SINK, 1, 0, 0, SINK, 2, 0, 0);
        x.bind(1, 2, 4);
        due("8: analyse", x.analyse(HIGHEST) > 0, true);
        due("8: three entry facts and a field's", x.entries(4), 4);
        due("8: to the receiver", x.finding(0, 1), true);
        due("8: to the argument", x.finding(0, 2), true);
        due("8: to no other local", x.finding(0, 3), false);
        due("8: local a gets nothing", x.finding(0, 0), false);
    }

    /** Facts that come round late, by jumps back and through methods of falling numbers. */
    private static void pathsThatSettleLate() {
        LabelledFlows back = withMain(NEW, 0, 0, 0, SOURCE, 1, 0, 0, CALL, 2, 0, 1, SINK, 2, 0, 0);
        with(back, 1, GOTO, 2, 0, 0, RETURN, 1, 0, 0, GOTO, 1, 0, 0);
        back.bind(0, 0, 1);
        due("8: a RETURN behind jumps", back.analyse(99), 5 + 3 + 2 + 3 + 3);
        due("8: its label comes back", back.finding(0, 0), true);

        LabelledFlows late = withMain(NEW, 0, 0, 0, SOURCE, 1, 0, 0, CALL, 2, 0, 1, GOTO, 10, 0, 0,
                SOURCE, 1, 0, 0, CALL, 2, 0, 1, RETURN, 0, 0, 0, GOTO, 4, 0, 0, GOTO, 7, 0, 0,
                RETURN, 0, 0, 0, GOTO, 8, 0, 0);
        with(late, 5, CALL, 2, 0, 5);
        with(late, 4, CALL, 2, 0, 9);
        with(late, 3, NEW, 2, 1, 0, CALL, 3, 2, 1);
        late.bind(0, 0, 5);
        late.bind(0, 1, 4);
        late.bind(0, 2, 3);
        late.bind(1, 0, 2);
        due("8: analyse", late.analyse(HIGHEST) > 0, true);
        for (int m = 2; m <= 5; m++) {
            due("12: both labels come to method " + m, late.entries(m), 3);
            due("11: the later one too", late.may(m, 0, 1, 1), true);
        }
    }

    private static LabelledFlows shortLeak() {
        return withMain(SOURCE, 0, 0, 0, NEW, 1, 0, 0, STORE, 1, 0, 0, SINK, 0, 0, 0);
    }

    private static void verdicts() {
        LabelledFlows x = shortLeak();
        due("9: none", x.verdict(), 0);
        x.run(0, 9);
        due("9: none by a run", x.verdict(), 0);
        x.analyse(HIGHEST);
        due("9: complete", x.verdict(), 1);
        due("9: analyse leaves the run", x.outcome(), 1);
        due("9: and its hits", x.hits(0, 0), 1);
        due("9: and what it made", x.made(), 1);
        x.run(0, 9);
        due("9: a run leaves it", x.verdict(), 1);
        x.analyse(3);
        due("9: incomplete", x.verdict(), 2);
        x.run(0, 9);
        due("9: a run leaves that too", x.verdict(), 2);
        x.analyse(HIGHEST);
        due("9: complete again", x.verdict(), 1);
    }

    private static void dueForgotten(String what, LabelledFlows x) {
        due(what + ": no verdict", x.verdict(), 0);
        due(what + ": no run", x.outcome(), 0);
        due(what + ": no finding", x.finding(0, 0), false);
        due(what + ": no may", x.may(0, 1, 0, 0), false);
        due(what + ": no entries", x.entries(0), NONE);
        due(what + ": no points", x.points(0, 1), NONE);
        due(what + ": no cell", x.cell(0, 0), NONE);
        due(what + ": no hits", x.hits(0, 0), 0);
        due(what + ": nothing made", x.made(), 0);
        x.analyse(HIGHEST);
        x.run(0, 200);
    }

    private static void dueKept(String what, LabelledFlows x) {
        due(what + ": verdict", x.verdict(), 1);
        due(what + ": outcome", x.outcome(), 1);
        due(what + ": finding", x.finding(0, 0), true);
        due(what + ": may", x.may(0, 1, 0, 0), true);
        due(what + ": entries", x.entries(0), 1);
        due(what + ": points", x.points(0, 1), 1);
        due(what + ": hits", x.hits(0, 0), 1);
        due(what + ": made", x.made(), 1);
    }

    private static void forgetting() {
        LabelledFlows x = shortLeak();
        x.analyse(HIGHEST);
        x.run(0, 200);
        dueKept("before", x);
        due("refused add", x.add(0, COPY, 4, 0, 0), NONE);
        dueKept("refused add", x);
        due("refused drop", x.drop(1), false);
        dueKept("refused drop", x);
        due("refused derive", x.derive(2, 2), false);
        dueKept("refused derive", x);
        due("refused bind", x.bind(0, 0, 6), false);
        dueKept("refused bind", x);
        x.target(0, 0);
        x.size(0);
        dueKept("questions", x);
        due("add", x.add(5, COPY, 0, 0, 0), 0);
        dueForgotten("add", x);
        due("drop", x.drop(5), true);
        dueForgotten("drop", x);
        due("derive", x.derive(3, 1), true);
        dueForgotten("derive", x);
        due("derive that changes nothing", x.derive(3, 1), true);
        dueForgotten("derive that changes nothing", x);
        due("bind", x.bind(3, 1, 1), true);
        dueForgotten("bind", x);
        due("bind that changes nothing", x.bind(0, 0, NONE), true);
        dueForgotten("bind that changes nothing", x);
        dueKept("after", x);
    }

    private static void findings() {
        LabelledFlows x = shortLeak();
        due("10: no verdict", x.finding(0, 0), false);
        x.analyse(HIGHEST);
        due("10: finding", x.finding(0, 0), true);
        for (int bad : new int[] {-1, 1, 4, LOWEST, HIGHEST}) {
            due("10: source " + bad, x.finding(bad, 0), false);
            due("10: sink " + bad, x.finding(0, bad), false);
        }
        x.analyse(5);
        due("10: incomplete", x.finding(0, 0), false);

        LabelledFlows passed = withMain(SINK, 0, 0, 0, SOURCE, 0, 0, 0, SINK, 1, 0, 0, RETURN, 0, 0, 0, SINK, 0, 0, 0);
        passed.analyse(HIGHEST);
        due("10: before the source", passed.finding(0, 0), false);
        due("10: another local", passed.finding(0, 1), false);
        due("10: behind a RETURN", passed.finding(0, 2), false);

        LabelledFlows receiver = withMain(NEW, 0, 0, 0, SOURCE, 1, 0, 0, BRANCH, 4, 0, 0, COPY, 1, 0, 0,
                LOAD, 2, 1, 1, SINK, 2, 0, 0);
        receiver.analyse(HIGHEST);
        due("10: LOAD gives the labels of local b", receiver.finding(0, 0), true);
    }

    private static void numbersGoByMethods() {
        LabelledFlows x = new LabelledFlows();
        x.bind(2, 1, 1);
        with(x, 1, SOURCE, 2, 0, 0, SINK, 2, 0, 0, NEW, 3, 1, 0);
        with(x, 0, NEW, 0, 2, 0, CALL, 1, 0, 4);
        x.analyse(HIGHEST);
        due("10: alone they are 0", x.finding(0, 0), true);
        due("13: site 0 is method 0's", x.points(0, 0), 1);
        due("13: site 1 is method 1's", x.points(1, 3), 2);
        with(x, 0, SOURCE, 1, 0, 0, SINK, 3, 0, 0, NEW, 2, 0, 0);
        x.analyse(HIGHEST);
        due("10: now they are 1", x.finding(1, 1), true);
        due("10: not 0", x.finding(0, 0), false);
        due("10: not 0 and 1", x.finding(0, 1), false);
        due("13: site 2 now", x.points(1, 3), 4);
        x.run(0, 200);
        due("17: hits by the numbers", x.hits(1, 1), 1);
        due("17: no other", x.hits(0, 1) + x.hits(1, 0) + x.hits(0, 0), 0);
    }

    private static void mays() {
        LabelledFlows x = shortLeak();
        due("11: no verdict", x.may(0, 1, 0, 0), false);
        x.analyse(HIGHEST);
        due("11: not before", x.may(0, 0, 0, 0), false);
        due("11: local", x.may(0, 1, 0, 0), true);
        due("11: another local", x.may(0, 4, 1, 0), false);
        due("11: at the END", x.may(0, 4, 0, 0), true);
        due("11: beyond the END", x.may(0, 5, 0, 0), false);
        due("11: field before", x.may(0, 2, 4, 0), false);
        due("11: field", x.may(0, 3, 4, 0), true);
        due("11: another field", x.may(0, 3, 5, 0), false);
        due("11: no such site", x.may(0, 3, 6, 0), false);
        for (int bad : new int[] {-1, 6, 1, LOWEST, HIGHEST}) {
            due("11: method " + bad, x.may(bad, 1, 0, 0), false);
        }
        for (int bad : new int[] {-1, 13, 5, LOWEST, HIGHEST}) {
            due("11: place " + bad, x.may(0, bad, 0, 0), false);
        }
        for (int bad : new int[] {-1, 16, 20, 32, LOWEST, HIGHEST}) {
            due("11: where " + bad, x.may(0, 3, bad, 0), false);
        }
        for (int bad : new int[] {-1, 1, 4, 32, LOWEST, HIGHEST}) {
            due("11: source " + bad, x.may(0, 3, 0, bad), false);
        }
        x.analyse(2);
        due("11: incomplete", x.may(0, 1, 0, 0), false);

        LabelledFlows last = withMain(NEW, 0, 0, 0, NEW, 0, 0, 0, NEW, 0, 0, 0, NEW, 0, 0, 0, NEW, 0, 0, 0,
                NEW, 1, 0, 0, SOURCE, 0, 0, 0, SOURCE, 0, 0, 0, SOURCE, 0, 0, 0, SOURCE, 0, 0, 0, STORE, 1, 0, 1);
        last.analyse(HIGHEST);
        due("11: field 1 of site 5, source 3", last.may(0, 11, 15, 3), true);
        due("11: no other source", last.may(0, 11, 15, 2), false);
        due("11: no other field", last.may(0, 11, 14, 3), false);
    }

    private static void entryFacts() {
        LabelledFlows x = withMain(NEW, 0, 0, 0, SOURCE, 1, 0, 0, CALL, 2, 0, 1);
        with(x, 1, CALL, 2, 0, 4);
        with(x, 3, CLEAN, 0, 0, 0);
        x.bind(0, 0, 1);
        x.bind(0, 1, 2);
        due("12: no verdict", x.entries(0), NONE);
        x.analyse(HIGHEST);
        due("12: ZERO in method 0", x.entries(0), 1);
        due("12: ZERO and a labelled argument", x.entries(1), 2);
        due("12: ZERO alone, in an empty method", x.entries(2), 1);
        due("12: a method never called", x.entries(3), 0);
        for (int bad : new int[] {-1, 6, LOWEST, HIGHEST}) {
            due("12: method " + bad, x.entries(bad), NONE);
        }
        x.analyse(1);
        due("12: incomplete", x.entries(0), NONE);

        LabelledFlows unseen = withMain(NEW, 0, 0, 0, RETURN, 0, 0, 0, CALL, 1, 0, 0);
        with(unseen, 1, NEW, 2, 0, 0);
        unseen.bind(0, 0, 1);
        unseen.analyse(HIGHEST);
        due("12: reached, but no fact comes there", unseen.entries(1), 0);
        due("13: it points all the same", unseen.points(1, 2), 2);
        due("13: and gets its receiver", unseen.points(1, 0), 1);
    }

    private static void pointing() {
        LabelledFlows x = withMain(NEW, 0, 0, 0, NEW, 1, 1, 0, BRANCH, 4, 0, 0, COPY, 0, 1, 0,
                CALL, 2, 0, 1, CALL, 3, 1, 8);
        with(x, 1, NEW, 2, 3, 0, BRANCH, 3, 0, 0, RETURN, 2, 0, 0, RETURN, 1, 0, 0);
        with(x, 2, STORE, 0, 1, 0, LOAD, 3, 0, 0);
        with(x, 3, NEW, 0, 0, 0);
        x.bind(0, 0, 1);
        x.bind(1, 2, 2);
        due("13: no verdict", x.points(0, 0), NONE);
        due("14: no verdict", x.cell(0, 0), NONE);
        x.analyse(HIGHEST);
        due("13: two sites", x.points(0, 0), 3);
        due("13: one site", x.points(0, 1), 2);
        due("13: what comes back by either RETURN", x.points(0, 2), 6);
        due("13: nothing comes back", x.points(0, 3), 0);
        due("13: only receivers with that target", x.points(1, 0), 1);
        due("13: the argument", x.points(1, 1), 2);
        due("13: the other's receiver", x.points(2, 0), 2);
        due("13: the other's argument", x.points(2, 1), 3);
        due("13: by a field", x.points(2, 3), 3);
        due("13: a method not reached", x.points(3, 0), 0);
        due("14: a field", x.cell(1, 0), 3);
        due("14: the other field", x.cell(1, 1), 0);
        due("14: another site", x.cell(0, 0), 0);
        due("14: no such site", x.cell(5, 1), 0);
        for (int bad : new int[] {-1, 6, LOWEST, HIGHEST}) {
            due("13: method " + bad, x.points(bad, 0), NONE);
            due("14: site " + bad, x.cell(bad, 0), NONE);
        }
        for (int bad : new int[] {-1, 4, LOWEST, HIGHEST}) {
            due("13: local " + bad, x.points(0, bad), NONE);
        }
        for (int bad : new int[] {-1, 2, LOWEST, HIGHEST}) {
            due("14: field " + bad, x.cell(0, bad), NONE);
        }
        x.analyse(1);
        due("13: incomplete", x.points(0, 0), NONE);
        due("14: incomplete", x.cell(0, 0), NONE);
    }

    private static void pointingOfTheProgramAsItIs() {
        LabelledFlows x = withMain(NEW, 0, 0, 0, STORE, 0, 0, 1);
        x.analyse(HIGHEST);
        due("14: cell", x.cell(0, 1), 1);
        x.drop(0);
        x.analyse(HIGHEST);
        due("14: worked out anew", x.cell(0, 1), 0);
        due("13: points", x.points(0, 0), 1);
        x.drop(0);
        x.analyse(HIGHEST);
        due("13: worked out anew", x.points(0, 0), 0);
        LabelledFlows behind = withMain(GOTO, 2, 0, 0, NEW, 0, 0, 0);
        behind.analyse(HIGHEST);
        due("13: also where no run comes", behind.points(0, 0), 1);
    }

    private static void stepsOfRuns() {
        LabelledFlows loop = withMain(GOTO, 0, 0, 0);
        dueRun("15: at most 200", loop, 0, 1000, 200, 2);
        dueRun("15: at most 200", loop, 0, HIGHEST, 200, 2);
        dueRun("15: 199", loop, 0, 199, 199, 2);
        dueRun("15: one", loop, 0, 1, 1, 2);
        dueRun("15: none", loop, 0, 0, 0, 2);
        dueRun("15: below none", loop, 0, LOWEST, 0, 2);
        LabelledFlows two = withMain(CLEAN, 0, 0, 0, CLEAN, 0, 0, 0);
        dueRun("16: ended before steps", two, 0, 2, 2, 1);
        dueRun("16: steps", two, 0, 1, 1, 2);
        dueRun("16: ended by RETURN", withMain(RETURN, 0, 0, 0, CLEAN, 0, 0, 0), 0, 9, 1, 1);
        dueRun("16: ended, may make none", new LabelledFlows(), 0, 0, 0, 1);
        dueRun("16: a place beyond the END", withMain(GOTO, 11, 0, 0, CLEAN, 0, 0, 0), 0, 9, 1, 1);
    }

    private static void choicesOfRuns() {
        LabelledFlows x = withMain(BRANCH, 2, 0, 0, GOTO, 0, 0, 0, BRANCH, 11, 0, 0, GOTO, 2, 0, 0);
        dueRun("15: bit 0", x, 3, 200, 2, 1);
        dueRun("15: bits 1 and 2", x, 6, 200, 4, 1);
        dueRun("15: bit 31, then again bit 31", x, LOWEST, 200, 63 + 63, 1);
        dueRun("15: bit 31, then again bit 0", x, LOWEST | 1, 200, 62, 1);
        dueRun("15: bit 5, then again bit 5", x, 32, 200, 11 + 63, 1);
        dueRun("15: no bit", x, 0, 200, 200, 2);
    }

    private static void stuckRuns() {
        dueRun("16: LOAD of none", withMain(LOAD, 0, 1, 0), 0, 9, 0, 3);
        dueRun("16: LOAD into none is fine", withMain(NEW, 1, 0, 0, LOAD, 0, 1, 0), 0, 9, 2, 1);
        dueRun("16: STORE to none", withMain(NEW, 1, 0, 0, STORE, 0, 1, 0), 0, 9, 1, 3);
        dueRun("16: STORE of none is fine", withMain(NEW, 1, 0, 0, STORE, 1, 0, 0), 0, 9, 2, 1);
        dueRun("16: CALL of none", withMain(CALL, 0, 0, 0), 0, 9, 0, 3);
        dueRun("16: CALL without a target", withMain(NEW, 0, 0, 0, CALL, 1, 0, 0), 0, 9, 1, 3);
        dueRun("16: a SOURCE is none", withMain(NEW, 0, 0, 0, SOURCE, 0, 0, 0, LOAD, 1, 0, 0), 0, 9, 2, 3);
        dueRun("16: a new field is none", withMain(NEW, 0, 0, 0, LOAD, 1, 0, 1, LOAD, 1, 1, 0), 0, 9, 2, 3);
        dueRun("16: steps before stuck", withMain(CLEAN, 0, 0, 0, LOAD, 0, 1, 0), 0, 1, 1, 2);
        dueRun("16: CLEAN keeps the object", withMain(NEW, 0, 0, 0, CLEAN, 0, 0, 0, LOAD, 1, 0, 0), 0, 9, 3, 1);
        LabelledFlows end = withMain(NEW, 0, 0, 0, COPY, 1, 0, 0, CALL, 1, 0, 0, LOAD, 1, 1, 0);
        end.bind(0, 0, 1);
        dueRun("16: what a method's END gives is none", end, 0, 9, 3, 3);
    }

    private static void deepAndFullRuns() {
        LabelledFlows x = withMain(NEW, 0, 0, 0, CALL, 1, 0, 0);
        with(x, 1, BRANCH, 3, 0, 0, CALL, 1, 0, 0, RETURN, 1, 0, 0, CALL, 1, 2, 0, RETURN, 1, 0, 0);
        x.bind(0, 0, 1);
        dueRun("16: deep", x, 0, 200, 11, 4);
        dueRun("16: stuck before deep", x, 16, 200, 11, 3);
        dueRun("16: steps before deep", x, 0, 11, 11, 2);
        LabelledFlows six = withMain(NEW, 0, 0, 0, CALL, 1, 0, 0);
        with(six, 1, BRANCH, 11, 0, 0, CALL, 1, 0, 0);
        six.bind(0, 0, 1);
        dueRun("16: six open methods are not too many", six, 16, 200, 11, 1);
        LabelledFlows empty = withMain(NEW, 0, 0, 0, CALL, 1, 0, 0);
        with(empty, 1, CALL, 1, 0, 4);
        with(empty, 2, CALL, 1, 0, 8);
        empty.bind(0, 0, 1);
        empty.bind(0, 1, 2);
        empty.bind(0, 2, 3);
        dueRun("16: methods at their END end without a step", empty, 0, 200, 4, 1);
        LabelledFlows full = withMain(NEW, 0, 0, 0, BRANCH, 3, 0, 0, GOTO, 0, 0, 0, CLEAN, 0, 0, 0);
        dueRun("16: full", full, 0, 200, 36, 5);
        due("18: made", full.made(), 12);
        dueRun("16: twelve are not too many", full, 1 << 11, 200, 36, 1);
        due("18: made", full.made(), 12);
        dueRun("16: steps before full", full, 0, 36, 36, 2);
        due("16: no run, no outcome", new LabelledFlows().outcome(), 0);
    }

    private static void methodZeroCalled() {
        // Method 0 calls itself: only where the first one ends is the run over.
        LabelledFlows x = withMain(BRANCH, 3, 0, 0, NEW, 0, 0, 0, CALL, 1, 0, 2, SINK, 1, 0, 0);
        x.bind(0, 0, 0);
        dueRun("16: the inner one ends", x, 2, 200, 3 + 2 + 1, 1);
    }

    private static void valuesInRuns() {
        LabelledFlows x = withMain(NEW, 0, 0, 0, SOURCE, 1, 0, 0, CALL, 2, 0, 1, SINK, 2, 0, 0,
                LOAD, 3, 0, 1, SINK, 3, 0, 0, SINK, 1, 0, 0);
        with(x, 1, STORE, 0, 1, 1, SINK, 1, 0, 0, CLEAN, 1, 0, 0, RETURN, 0, 0, 0);
        x.bind(0, 0, 1);
        dueRun("17: with a call", x, 0, 200, 11, 1);
        due("17: the returned object has none", x.hits(0, 0), 0);
        due("17: by a field", x.hits(0, 1), 1);
        due("17: the caller's own local stays", x.hits(0, 2), 1);
        due("17: by the argument", x.hits(0, 3), 1);
        due("18: made", x.made(), 1);

        LabelledFlows fresh = withMain(NEW, 0, 0, 0, CALL, 1, 0, 0, CALL, 1, 0, 0);
        with(fresh, 1, SINK, 2, 0, 0, SINK, 3, 0, 0, SOURCE, 2, 0, 0, COPY, 3, 2, 0);
        fresh.bind(0, 0, 1);
        dueRun("17: locals of a call", fresh, 0, 200, 11, 1);
        due("17: begin without labels", fresh.hits(0, 0) + fresh.hits(0, 1), 0);
        fresh.analyse(HIGHEST);
        due("10: and so it is found", fresh.finding(0, 0) || fresh.finding(0, 1), false);

        LabelledFlows swap = withMain(NEW, 0, 0, 0, NEW, 1, 1, 0, STORE, 0, 1, 0, LOAD, 2, 0, 0,
                CALL, 3, 2, 0, SINK, 3, 0, 0);
        with(swap, 2, SOURCE, 3, 0, 0, RETURN, 3, 0, 0);
        swap.bind(1, 0, 2);
        dueRun("15: the class of a loaded object", swap, 0, 200, 8, 1);
        due("17: what comes back has its label", swap.hits(0, 0), 1);
    }

    private static void hitsOfRuns() {
        LabelledFlows x = withMain(SOURCE, 0, 0, 0, SINK, 0, 0, 0, BRANCH, 1, 0, 0);
        due("17: no run", x.hits(0, 0), 0);
        dueRun("17: a loop", x, 7, 200, 9, 1);
        due("17: counted each time", x.hits(0, 0), 4);
        for (int bad : new int[] {-1, 1, 4, LOWEST, HIGHEST}) {
            due("17: source " + bad, x.hits(bad, 0), 0);
            due("17: sink " + bad, x.hits(0, bad), 0);
        }
        dueRun("17: only steps that were made", x, 7, 1, 1, 2);
        due("17: none", x.hits(0, 0), 0);

        LabelledFlows four = withMain(SOURCE, 0, 0, 0, SOURCE, 1, 0, 0, SOURCE, 2, 0, 0, SOURCE, 3, 0, 0,
                SINK, 3, 0, 0, SINK, 2, 0, 0, SINK, 1, 0, 0, SINK, 0, 0, 0);
        four.run(0, 200);
        for (int i = 0; i < 16; i++) {
            due("17: source " + i / 4 + " sink " + i % 4, four.hits(i / 4, i % 4), i / 4 + i % 4 == 3 ? 1 : 0);
        }
    }

    private static void runsBeginAnew() {
        LabelledFlows x = withMain(NEW, 0, 0, 0, BRANCH, 4, 0, 0, SOURCE, 1, 0, 0, STORE, 0, 1, 0,
                LOAD, 2, 0, 0, SINK, 2, 0, 0, SINK, 1, 0, 0);
        dueRun("15: with the source", x, 0, 200, 7, 1);
        due("17: hits", x.hits(0, 0) + x.hits(0, 1), 2);
        dueRun("15: without it", x, 1, 200, 5, 1);
        due("17: nothing is left", x.hits(0, 0) + x.hits(0, 1), 0);
        due("18: made in the latest run", x.made(), 1);
        x.run(0, 0);
        due("18: none made", x.made(), 0);
        due("18: no run", new LabelledFlows().made(), 0);
    }

    private static void manyCalls() {
        LabelledFlows x = shortLeak();
        for (int i = 0; i < 160; i++) {
            due("calls over and over: analyse", x.analyse(99), 11);
            due("calls over and over: run", x.run(i, 200), 4);
            due("calls over and over: finding", x.finding(0, 0), true);
        }
    }

    public static void main(String[] args) {
        newObject();
        addPlaces();
        addOperands();
        addLimits();
        dropLast();
        parents();
        bindings();
        targets();
        sizes();
        pathsWithoutCalls();
        pathsWithCalls();
        pathsBothArguments();
        pathsThatSettleLate();
        verdicts();
        forgetting();
        findings();
        numbersGoByMethods();
        mays();
        entryFacts();
        pointing();
        pointingOfTheProgramAsItIs();
        stepsOfRuns();
        choicesOfRuns();
        stuckRuns();
        deepAndFullRuns();
        methodZeroCalled();
        valuesInRuns();
        hitsOfRuns();
        runsBeginAnew();
        manyCalls();
        finish();
    }
}

/** The boundary cases of single runs: how they begin, what their steps do at the edges, and how they are over. */
public final class RunBoundaries extends Checks {
    private static void runsBegin() {
        sentence("A RUN begins at place 0 of method 0, all its locals none without labels.");
        LabelledFlows x = withMain(SINK, 0, 0, 0, SINK, 1, 0, 0, SINK, 2, 0, 0, SINK, 3, 0, 0,
                SOURCE, 0, 0, 0, COPY, 1, 0, 0, COPY, 2, 0, 0, COPY, 3, 0, 0, BRANCH, 0, 0, 0);
        for (int i = 0; i < 3; i++) {
            dueRun("once through", x, 0, 200, 9, ENDED);
            for (int t = 0; t <= 3; t++) {
                due("local " + t + " begins without labels", x.hits(0, t), 0);
            }
        }
        dueRun("twice through", x, 1, 200, 18, ENDED);
        for (int t = 0; t <= 3; t++) {
            due("local " + t + " has its label the second time", x.hits(0, t), 1);
        }
        for (int local = 0; local <= 3; local++) {
            LabelledFlows load = withMain(LOAD, 0, local, 0, NEW, local, 0, 0);
            dueRun("local " + local + " begins as none", load, 0, 200, 0, STUCK);
        }
    }

    private static void endsWithoutAStep() {
        sentence("A STEP does the statement where it stands. Where a method stands at its END, it ends at once, "
                + "without a step.");
        for (int size = 0; size <= 12; size++) {
            LabelledFlows x = new LabelledFlows();
            LabelledFlows caller = withMain(NEW, 0, 0, 0, CALL, 1, 0, 0, CALL, 1, 0, 0);
            caller.bind(0, 0, 4);
            for (int i = 0; i < size; i++) {
                with(x, 0, CLEAN, 0, 0, 0);
                with(caller, 4, CLEAN, 0, 0, 0);
            }
            dueRun(size + " statements", x, 0, 200, size, ENDED);
            dueRun("a called method of " + size, caller, 0, 200, 3 + 2 * size, ENDED);
        }
        LabelledFlows chain = withMain(NEW, 0, 0, 0, CALL, 1, 0, 0);
        with(chain, 1, CALL, 1, 0, 4);
        with(chain, 2, CALL, 1, 0, 8);
        chain.bind(0, 0, 1);
        chain.bind(0, 1, 2);
        chain.bind(0, 2, 3);
        dueRun("four methods end at once", chain, 0, 200, 4, ENDED);
        dueRun("and need no step for it", chain, 0, 4, 4, ENDED);
        dueRun("one step less", chain, 0, 3, 3, STEPS);
    }

    /** With bit j of the choices alone the SINK is done by each BRANCH whose bit is j, two steps after it. */
    private static void dueBit(LabelledFlows x, int j) {
        for (int round = 0; round < 3; round++) {
            int k = 32 * round + j;
            int before = 1 + 2 * k + round;
            x.run(1 << j, before + 1);
            due("bit " + j + ": hits up to BRANCH " + k, x.hits(0, 0), round);
            x.run(1 << j, before + 2);
            due("bit " + j + ": hits by BRANCH " + k, x.hits(0, 0), round + 1);
            // With all the other bits this BRANCH goes to the next place, and those before it to the SINK.
            int taken = k - round;
            before = 1 + 2 * k + taken;
            if (before + 2 <= 200) {
                x.run(~(1 << j), before + 2);
                due("all bits but " + j + ": hits up to BRANCH " + k, x.hits(0, 0), taken);
            }
        }
    }

    private static void branchesTakeBits() {
        sentence("The BRANCH done as the k-th one of the run (from 0) goes to place a when bit k % 32 of the run's "
                + "choices is 1 (bit 0 is the lowest).");
        LabelledFlows ends = withMain(BRANCH, 11, 0, 0, GOTO, 0, 0, 0);
        for (int j = 0; j <= 31; j++) {
            dueRun("ends by bit " + j, ends, 1 << j, 200, 2 * j + 1, ENDED);
            dueRun("ends by bit " + j + " and others above", ends, -1 << j, 200, 2 * j + 1, ENDED);
        }
        dueRun("no bit", ends, 0, 200, 200, STEPS);
        for (int j = 0; j <= 31; j++) {
            dueBit(withMain(SOURCE, 0, 0, 0, BRANCH, 3, 0, 0, GOTO, 1, 0, 0, SINK, 0, 0, 0, GOTO, 1, 0, 0), j);
        }
        LabelledFlows all = withMain(SOURCE, 0, 0, 0, BRANCH, 1, 0, 0, SINK, 0, 0, 0);
        dueRun("all bits, over and over", all, -1, 200, 200, STEPS);
        dueRun("31 of 32 bits", all, HIGHEST, 200, 1 + 32 + 1, ENDED);
        // BRANCH 0 in method 0, 1 in method 1, 2 in method 0 again; no other statement counts.
        LabelledFlows calls = withCalled(rows(NEW, 0, 0, 0, BRANCH, 3, 0, 0, SINK, 0, 0, 0, CALL, 1, 0, 0,
                BRANCH, 6, 0, 0, SINK, 0, 0, 0), BRANCH, 2, 0, 0, SINK, 0, 0, 0);
        for (int choices = 0; choices < 16; choices++) {
            due("over methods, choices " + choices, calls.run(choices, 200), 8 - Integer.bitCount(choices & 7));
        }
    }

    private static void endedBeforeSteps() {
        sentence("method 0 has ended (ENDED, also if it may make none);");
        dueRun("empty, may make none", new LabelledFlows(), 0, 0, 0, ENDED);
        dueRun("empty, may make less than none", new LabelledFlows(), 0, -7, 0, ENDED);
        dueRun("one statement, may make none", withMain(CLEAN, 0, 0, 0), 0, 0, 0, STEPS);
        for (int size = 1; size <= 12; size++) {
            LabelledFlows x = new LabelledFlows();
            for (int i = 1; i < size; i++) {
                with(x, 0, CLEAN, 0, 0, 0);
            }
            with(x, 0, size % 2 == 0 ? RETURN : CLEAN, 0, 0, 0);
            dueRun("as many steps as it may", x, 0, size, size, ENDED);
            dueRun("one more than it needs", x, 0, size + 1, size, ENDED);
            dueRun("one less than it needs", x, 0, size - 1, size - 1, STEPS);
        }
        LabelledFlows back = withCalled(rows(NEW, 0, 0, 0, CALL, 1, 0, 0), CLEAN, 0, 0, 0, RETURN, 0, 0, 0);
        dueRun("by a RETURN to the END", back, 0, 4, 4, ENDED);
        dueRun("one step less", back, 0, 3, 3, STEPS);
        LabelledFlows again = withMain(BRANCH, 3, 0, 0, NEW, 0, 0, 0, CALL, 1, 0, 0, CLEAN, 0, 0, 0);
        again.bind(0, 0, 0);
        dueRun("a called method 0 ends, and it goes on", again, 2, 200, 3 + 2 + 1, ENDED);
        dueRun("so it is not over yet", again, 2, 5, 5, STEPS);
    }

    /** Three loops that bit 31 ends, of 63 steps each; then NEW, CALL, and a method of so many CLEANs. */
    private static LabelledFlows longRun(int cleans) {
        LabelledFlows x = withMain(BRANCH, 2, 0, 0, GOTO, 0, 0, 0, BRANCH, 4, 0, 0, GOTO, 2, 0, 0,
                BRANCH, 6, 0, 0, GOTO, 4, 0, 0, NEW, 0, 0, 0, CALL, 1, 0, 0);
        x.bind(0, 0, 1);
        for (int i = 0; i < cleans; i++) {
            with(x, 1, CLEAN, 0, 0, 0);
        }
        return x;
    }

    private static void stepsItMay() {
        sentence("Makes a run with these choices and at most n steps; n below 0 counts as 0, above 200 as 200.");
        LabelledFlows loop = withMain(GOTO, 0, 0, 0);
        for (int n : new int[] {LOWEST, LOWEST + 1, -201, -200, -2, -1, 0}) {
            dueRun("n " + n, loop, 0, n, 0, STEPS);
        }
        for (int n = 1; n <= 200; n++) {
            dueRun("n " + n, loop, 0, n, n, STEPS);
        }
        LabelledFlows more = withMain(GOTO, 0, 0, 0);
        for (int n : new int[] {201, 202, 255, 256, 400, 1000000, HIGHEST - 1, HIGHEST}) {
            dueRun("n " + n, more, 0, n, 200, STEPS);
        }
        dueRun("200 are needed", longRun(9), LOWEST, 200, 200, ENDED);
        dueRun("200 are needed", longRun(9), LOWEST, HIGHEST, 200, ENDED);
        dueRun("200 are needed", longRun(9), LOWEST, 199, 199, STEPS);
        dueRun("201 are needed", longRun(10), LOWEST, 201, 200, STEPS);
        dueRun("201 are needed", longRun(10), LOWEST, HIGHEST, 200, STEPS);
        dueRun("199 are needed", longRun(8), LOWEST, 200, 199, ENDED);
    }

    private static void stepsBeforeTheOthers() {
        sentence("it has made as many steps as it may (STEPS);");
        int[][] stuck = {{LOAD, 0, 1, 0}, {STORE, 0, 1, 0}, {CALL, 0, 1, 0}};
        for (int[] last : stuck) {
            dueRun("kind " + last[0] + ", none may be made", withMain(last), 0, 0, 0, STEPS);
            dueRun("kind " + last[0] + ", one may be made", withMain(last), 0, 1, 0, STUCK);
            LabelledFlows x = with(withMain(CLEAN, 0, 0, 0), 0, last);
            dueRun("kind " + last[0] + ", not before the steps", x, 0, 1, 1, STEPS);
            dueRun("kind " + last[0] + ", a step more", x, 0, 2, 1, STUCK);
        }
        LabelledFlows lost = withMain(NEW, 0, 0, 0, CALL, 1, 0, 0);
        dueRun("no TARGET, not before the steps", lost, 0, 1, 1, STEPS);
        dueRun("no TARGET, a step more", lost, 0, 2, 1, STUCK);
        LabelledFlows deep = withCalled(rows(NEW, 0, 0, 0, CALL, 1, 0, 0), CALL, 1, 0, 0);
        dueRun("DEEP, not before the steps", deep, 0, 6, 6, STEPS);
        dueRun("DEEP, a step more", deep, 0, 7, 6, DEEP);
        LabelledFlows full = withMain(NEW, 0, 0, 0, GOTO, 0, 0, 0);
        dueRun("FULL, not before the steps", full, 0, 24, 24, STEPS);
        dueRun("FULL, a step more", full, 0, 25, 24, FULL);
    }

    private static void stuckWithoutObject() {
        sentence("the statement is LOAD, STORE or CALL and local b's (for STORE: local a's) object is none, "
                + "or it is CALL and there is no TARGET (STUCK);");
        for (int i = 0; i < 64; i++) {
            int object = i / 16;
            int a = i / 4 % 4;
            int b = i % 4;
            String what = "object in " + object + ", operands " + a + " " + b;
            for (int kind = LOAD; kind <= CALL; kind++) {
                LabelledFlows x = withMain(NEW, object, 0, 0, kind, a, b, 1);
                x.bind(0, 0, 2);
                boolean goes = (kind == STORE ? a : b) == object;
                dueRun("kind " + kind + " " + what, x, 0, 200, goes ? 2 : 1, goes ? ENDED : STUCK);
            }
        }
        LabelledFlows source = withMain(NEW, 0, 0, 0, SOURCE, 0, 0, 0, LOAD, 1, 0, 0);
        dueRun("a SOURCE is no object", source, 0, 200, 2, STUCK);
        LabelledFlows cleaned = withMain(NEW, 0, 0, 0, CLEAN, 0, 0, 0, LOAD, 1, 0, 0);
        dueRun("CLEAN keeps the object", cleaned, 0, 200, 3, ENDED);
        LabelledFlows target = withMain(NEW, 0, 2, 0, CALL, 1, 0, 0);
        dueRun("nothing is bound", target, 0, 200, 1, STUCK);
        target.bind(2, 1, 3);
        dueRun("another message is bound", target, 0, 200, 1, STUCK);
        target.bind(1, 0, 3);
        dueRun("another class is bound", target, 0, 200, 1, STUCK);
        target.derive(2, 1);
        dueRun("it is the parent", target, 0, 200, 2, ENDED);
        target.derive(1, 0);
        target.bind(1, 0, NONE);
        dueRun("no parent has it", target, 0, 200, 1, STUCK);
        target.bind(0, 0, 3);
        dueRun("the parent's parent has it", target, 0, 200, 2, ENDED);
    }

    private static void deepWithSix() {
        sentence("it is CALL and 6 methods, method 0 among them,\nhave begun and not ended (DEEP);");
        // The BRANCHes 0 .. 4 are done with 2 .. 6 methods open.
        int[] main = {NEW, 0, 0, 0, CALL, 1, 0, 0, CALL, 1, 0, 0};
        LabelledFlows x = withCalled(main, BRANCH, 11, 0, 0, CALL, 1, 0, 0);
        dueRun("down to six, twice", x, 1 << 4 | 1 << 9, 200, 1 + 10 + 10, ENDED);
        dueRun("a seventh at once", x, 1 << 9, 200, 11, DEEP);
        dueRun("a seventh the second time", x, 1 << 4, 200, 1 + 10 + 10, DEEP);
        dueRun("down to five, twice", x, 1 << 3 | 1 << 7, 200, 1 + 8 + 8, ENDED);
        LabelledFlows returns = withCalled(main, BRANCH, 2, 0, 0, CALL, 1, 0, 0, RETURN, 0, 0, 0);
        dueRun("down to six, twice, by RETURN", returns, 1 << 4 | 1 << 9, 200, 1 + 15 + 15, ENDED);
        LabelledFlows self = withMain(NEW, 0, 0, 0, CALL, 1, 0, 0);
        self.bind(0, 0, 0);
        dueRun("method 0 six times", self, 0, 200, 11, DEEP);
        due("it was begun six times", self.made(), 6);
        LabelledFlows many = withCalled(rows(NEW, 0, 0, 0, CALL, 1, 0, 0, GOTO, 1, 0, 0));
        dueRun("methods that have ended do not count", many, 0, 200, 200, STEPS);
    }

    private static void stuckBeforeDeep() {
        sentence("The run is over with the first of these that holds, in this order, before each step:");
        int[] main = {NEW, 0, 0, 0, CALL, 1, 0, 0};
        int[][] last = {{CALL, 1, 2, 0}, {CALL, 1, 0, 4}, {LOAD, 1, 2, 0}, {STORE, 2, 0, 0}};
        for (int[] row : last) {
            LabelledFlows x = with(withCalled(main, BRANCH, 2, 0, 0, CALL, 1, 0, 0), 1, row);
            dueRun("stuck with six open", x, 1 << 4, 200, 11, STUCK);
            dueRun("deep there without it", x, 0, 200, 11, DEEP);
            dueRun("steps before both", x, 1 << 4, 11, 11, STEPS);
            dueRun("steps before both", x, 0, 11, 11, STEPS);
        }
        LabelledFlows bound = with(withCalled(main, BRANCH, 2, 0, 0, CALL, 1, 0, 0), 1, CALL, 1, 0, 4);
        bound.bind(0, 1, 2);
        dueRun("with a TARGET it is deep", bound, 1 << 4, 200, 11, DEEP);
        LabelledFlows full = withMain(NEW, 0, 0, 0, BRANCH, 0, 0, 0, LOAD, 0, 1, 0);
        dueRun("stuck where it would not be full", full, 0x7ff, 200, 24, STUCK);
        dueRun("full", full, -1, 200, 24, FULL);
        dueRun("ended before anything", withMain(RETURN, 0, 0, 0, LOAD, 0, 0, 0), 0, 1, 1, ENDED);
    }

    private static void fullWithTwelve() {
        sentence("it is NEW and 12 objects were made in this run (FULL).");
        for (int j = 0; j <= 15; j++) {
            LabelledFlows x = withMain(NEW, 0, 0, 0, BRANCH, 3, 0, 0, GOTO, 0, 0, 0);
            boolean fits = j <= 11;
            for (int again = 0; again < 2; again++) {
                dueRun((j + 1) + " objects", x, 1 << j, 200, fits ? 3 * j + 2 : 36, fits ? ENDED : FULL);
                due("made", x.made(), fits ? j + 1 : 12);
            }
        }
        LabelledFlows called = withCalled(rows(NEW, 0, 0, 0, CALL, 1, 0, 0, GOTO, 1, 0, 0), NEW, 2, 0, 0,
                NEW, 2, 0, 0);
        dueRun("those of called methods count", called, 0, 200, 1 + 5 * 4 + 2, FULL);
        due("made", called.made(), 12);
        LabelledFlows more = withCalled(rows(NEW, 0, 0, 0, BRANCH, 0, 0, 0, COPY, 1, 0, 0, STORE, 0, 1, 0,
                LOAD, 2, 0, 0, CALL, 3, 2, 1, LOAD, 0, 3, 0), RETURN, 0, 0, 0);
        dueRun("with twelve all else goes on", more, 0x7ff, 200, 24 + 6, ENDED);
        due("made", more.made(), 12);
    }

    private static void runsBeginAnew() {
        sentence("Every run begins anew, nothing of former ones is left.");
        LabelledFlows x = withCalled(rows(BRANCH, 9, 0, 0, NEW, 0, 0, 0, SOURCE, 1, 0, 0, STORE, 0, 1, 0,
                BRANCH, 1, 0, 0,
                CALL, 2, 0, 1, SINK, 1, 0, 0, SINK, 2, 0, 0, GOTO, 11, 0, 0, NEW, 0, 0, 0, LOAD, 2, 0, 0,
                SINK, 2, 0, 0),
                BRANCH, 2, 0, 0, CALL, 2, 0, 1, RETURN, 1, 0, 0);
        int[][] former = {{1, 200}, {0, 200}, {0x7ffffffe, 200}, {4, 200}, {4, 9}, {0, 0}, {0, 7}, {-2, 60}};
        int[] outcomes = {ENDED, DEEP, FULL, ENDED, STEPS, STEPS, STEPS, FULL};
        for (int i = 0; i < former.length; i++) {
            x.run(former[i][0], former[i][1]);
            due("the former run, number " + i, x.outcome(), outcomes[i]);
            dueRun("the next one", x, 1, 200, 4, ENDED);
            due("made", x.made(), 1);
            due("nothing in a new field, or of the former hits", x.hits(0, 0) + x.hits(0, 1) + x.hits(0, 2), 0);
            dueRun("and one more", x, 4, 200, 12, ENDED);
            due("made", x.made(), 1);
            due("hits", x.hits(0, 0) * 100 + x.hits(0, 1) * 10 + x.hits(0, 2), 111);
        }
    }

    /** Up to twelve objects, which get a label in a field where an even bit is 0; an odd bit makes one more. */
    private static void fieldsBeginAnew() {
        sentence("Every run begins anew, nothing of former ones is left.");
        int more = 0x2aaaaa;
        int without = 0x555555;
        for (int f = 0; f <= 1; f++) {
            LabelledFlows x = withMain(NEW, 0, 0, 0, BRANCH, 4, 0, 0, SOURCE, 1, 0, 0, STORE, 0, 1, f,
                    LOAD, 2, 0, f, SINK, 2, 0, 0, BRANCH, 0, 0, 0);
            for (int i = 0; i < 2; i++) {
                dueRun("a label in each field " + f, x, more, 200, 12 * 7, ENDED);
                due("hits", x.hits(0, 0), 12);
                dueRun("in none", x, more | without, 200, 12 * 5, ENDED);
                due("hits", x.hits(0, 0), 0);
                due("made", x.made(), 12);
            }
            LabelledFlows object = withMain(NEW, 0, 0, 0, BRANCH, 3, 0, 0, STORE, 0, 0, f, BRANCH, 0, 0, 0,
                    LOAD, 2, 0, f, LOAD, 2, 2, f);
            for (int i = 0; i < 2; i++) {
                dueRun("an object in each field " + f, object, more, 200, 12 * 4 + 2, ENDED);
                dueRun("in none", object, more | without, 200, 12 * 3 + 1, STUCK);
            }
        }
    }

    private static void stepsAnswered() {
        sentence("Answers the number of steps made (the statement with which it was STUCK, DEEP or FULL is none).");
        for (int before = 0; before <= 11; before++) {
            LabelledFlows x = new LabelledFlows();
            for (int i = 0; i < before; i++) {
                with(x, 0, CLEAN, 0, 0, 0);
            }
            with(x, 0, LOAD, 0, 0, 0);
            dueRun("stuck behind " + before, x, 0, 200, before, STUCK);
        }
        LabelledFlows deep = withCalled(rows(NEW, 0, 0, 0, CALL, 1, 0, 0), CLEAN, 1, 0, 0, CALL, 1, 0, 0);
        dueRun("deep", deep, 0, 200, 2 + 4 * 2 + 1, DEEP);
        LabelledFlows full = withMain(NEW, 0, 0, 0, NEW, 0, 0, 0, NEW, 0, 0, 0, NEW, 0, 0, 0, NEW, 0, 0, 0,
                NEW, 0, 0, 0, GOTO, 0, 0, 0);
        dueRun("full", full, 0, 200, 14, FULL);
    }

    private static void outcomes() {
        sentence("How the latest run was over: 1 ENDED, 2 STEPS, 3 STUCK, 4 DEEP, 5 FULL; 0 when there is no run.");
        LabelledFlows x = withCalled(rows(BRANCH, 3, 0, 0, BRANCH, 6, 0, 0, RETURN, 0, 0, 0, BRANCH, 8, 0, 0,
                NEW, 0, 0, 0, GOTO, 4, 0, 0, LOAD, 0, 0, 0, RETURN, 0, 0, 0, NEW, 0, 0, 0, CALL, 0, 0, 0),
                CALL, 0, 0, 0);
        due("no run", x.outcome(), 0);
        dueRun("ended", x, 0, 200, 3, 1);
        dueRun("steps", x, 0, 2, 2, 2);
        dueRun("stuck", x, 2, 200, 2, 3);
        dueRun("deep", x, 3, 200, 8, 4);
        dueRun("full", x, 1, 200, 26, 5);
        x.analyse(0);
        due("an analysis leaves it", x.outcome(), 5);
        x.bind(3, 2, 5);
        due("no run any more", x.outcome(), 0);
    }

    private static void hitsCounted() {
        sentence("How many times in the latest run a SINK of number t was done while its local had label s "
                + "(an object or none); 0 when there is no run, no such source or no such sink.");
        LabelledFlows x = withMain(SOURCE, 0, 0, 0, SINK, 0, 0, 0, SINK, 1, 0, 0, BRANCH, 1, 0, 0);
        due("no run", x.hits(0, 0), 0);
        for (int j = 0; j <= 31; j++) {
            x.run((1 << j) - 1, 200);
            due((j + 1) + " times", x.hits(0, 0), j + 1);
            due("another local", x.hits(0, 1), 0);
        }
        x.run(-1, 200);
        due("to the last step", x.hits(0, 0), 67);
        x.run(-1, 199);
        due("to the last step but one", x.hits(0, 0), 66);
        x.run(0, 1);
        due("a step short of the first", x.hits(0, 0), 0);
        x.run(0, 2);
        due("the first", x.hits(0, 0), 1);
        for (int bad : new int[] {LOWEST, -2, -1, 1, 2, 3, 4, 5, HIGHEST}) {
            due("source " + bad, x.hits(bad, 0), 0);
        }
        for (int bad : new int[] {LOWEST, -2, -1, 2, 3, 4, 5, HIGHEST}) {
            due("sink " + bad, x.hits(0, bad), 0);
        }
        LabelledFlows four = withMain(SOURCE, 3, 0, 0, SOURCE, 3, 0, 0, SOURCE, 3, 0, 0, SOURCE, 3, 0, 0,
                SINK, 0, 0, 0, SINK, 0, 0, 0, SINK, 0, 0, 0, SINK, 3, 0, 0);
        four.run(0, 200);
        due("the last source and the last sink", four.hits(3, 3), 1);
        due("the source before it", four.hits(2, 3), 0);
        due("the sink before it", four.hits(3, 2), 0);
        due("source 4", four.hits(4, 3), 0);
        due("sink 4", four.hits(3, 4), 0);
        four.drop(0);
        due("no run any more", four.hits(3, 3), 0);
        LabelledFlows object = withMain(SOURCE, 0, 0, 0, NEW, 1, 0, 0, SINK, 1, 0, 0, COPY, 1, 0, 0, SINK, 1, 0, 0);
        object.run(0, 200);
        due("an object without the label", object.hits(0, 0), 0);
        due("none with it", object.hits(0, 1), 1);
    }

    private static void madeCounted() {
        sentence("The number of objects made in the latest run; 0 when there is no run.");
        LabelledFlows x = withMain(NEW, 0, 0, 0, NEW, 0, 0, 0, NEW, 0, 0, 0, GOTO, 0, 0, 0);
        due("no run", x.made(), 0);
        for (int n = 0; n <= 20; n++) {
            x.run(0, n);
            due("made in " + n + " steps", x.made(), Math.min(12, n - n / 4));
        }
        x.run(0, 200);
        due("made", x.made(), 12);
        x.analyse(HIGHEST);
        due("an analysis leaves it", x.made(), 12);
        x.derive(1, 0);
        due("no run any more", x.made(), 0);
        x.analyse(HIGHEST);
        due("nor by an analysis", x.made(), 0);
    }

    private static void beyondTheEnd() {
        sentence("it goes on at place a, likewise");
        for (int n = 0; n <= 11; n++) {
            for (int a = 1; a <= 11; a++) {
                LabelledFlows go = withMain(GOTO, a, 0, 0);
                LabelledFlows branch = withMain(BRANCH, a, 0, 0);
                for (int i = 0; i < n; i++) {
                    with(go, 0, CLEAN, 0, 0, 0);
                    with(branch, 0, CLEAN, 0, 0, 0);
                }
                int end = 1 + n;
                String what = " to " + a + ", the END is " + end;
                int steps = 1 + end - Math.min(a, end);
                dueRun("GOTO" + what, go, 0, 200, steps, ENDED);
                dueRun("BRANCH" + what, branch, 1, 200, steps, ENDED);
                dueRun("BRANCH" + what + ", not taken", branch, 0, 200, end, ENDED);
            }
        }
        dueRun("GOTO to itself", withMain(GOTO, 0, 0, 0), 0, 200, 200, STEPS);
        dueRun("BRANCH to itself", withMain(BRANCH, 0, 0, 0), 7, 200, 4, ENDED);
        LabelledFlows later = withMain(GOTO, 2, 0, 0);
        dueRun("beyond the END", later, 0, 200, 1, ENDED);
        with(later, 0, CLEAN, 0, 0, 0);
        dueRun("the END", later, 0, 200, 1, ENDED);
        with(later, 0, CLEAN, 0, 0, 0);
        dueRun("the last statement", later, 0, 200, 2, ENDED);
        later.drop(0);
        dueRun("the END again", later, 0, 200, 1, ENDED);
        LabelledFlows called = withCalled(rows(NEW, 0, 0, 0, COPY, 1, 0, 0, CALL, 1, 0, 0, CLEAN, 0, 0, 0,
                LOAD, 1, 1, 0),
                GOTO, 11, 0, 0, RETURN, 0, 0, 0);
        dueRun("a called method ends at its END", called, 0, 200, 5, STUCK);
        LabelledFlows returned = withCalled(rows(NEW, 0, 0, 0, COPY, 1, 0, 0, CALL, 1, 0, 0, CLEAN, 0, 0, 0,
                LOAD, 1, 1, 0),
                GOTO, 1, 0, 0, RETURN, 0, 0, 0);
        dueRun("and not by the RETURN behind", returned, 0, 200, 7, ENDED);
    }

    private static void newObjects() {
        sentence("local a becomes a new object of class b, both its fields none without labels; no labels");
        LabelledFlows x = withMain(SOURCE, 0, 0, 0, NEW, 1, 0, 0, STORE, 1, 0, 0, STORE, 1, 0, 1, BRANCH, 1, 0, 0,
                NEW, 0, 0, 0, SINK, 0, 0, 0, LOAD, 2, 0, 0, SINK, 2, 0, 0, LOAD, 3, 0, 1, SINK, 3, 0, 0);
        dueRun("a new one behind others", x, 1, 200, 15, ENDED);
        due("it has no label", x.hits(0, 0), 0);
        due("nor has its field 0", x.hits(0, 1), 0);
        due("nor its field 1", x.hits(0, 2), 0);
        for (int f = 0; f <= 1; f++) {
            LabelledFlows field = withMain(NEW, 0, 0, 0, LOAD, 1, 0, f, LOAD, 1, 1, 0);
            dueRun("field " + f + " is none", field, 0, 200, 2, STUCK);
        }
        LabelledFlows site = withMain(NEW, 0, 0, 0, COPY, 1, 2, 0, COPY, 2, 0, 0, STORE, 0, 0, 1, BRANCH, 0, 0, 0,
                NEW, 0, 0, 0, LOAD, 3, 1, 1, LOAD, 3, 0, 1, LOAD, 3, 3, 0);
        dueRun("each time another object", site, 1, 200, 13, STUCK);
    }

    private static void valuesChanged() {
        sentence("local a keeps its object and loses all labels");
        LabelledFlows x = withMain(SOURCE, 0, 0, 0, COPY, 1, 0, 0, CLEAN, 0, 0, 0, SINK, 0, 0, 0, SINK, 1, 0, 0,
                NEW, 2, 0, 0, CLEAN, 2, 0, 0, LOAD, 3, 2, 0);
        dueRun("CLEAN", x, 0, 200, 8, ENDED);
        due("the label is lost", x.hits(0, 0), 0);
        due("a copy has it", x.hits(0, 1), 1);
        LabelledFlows labels = withMain(SOURCE, 0, 0, 0, SOURCE, 1, 0, 0, SOURCE, 2, 0, 0, SOURCE, 3, 0, 0,
                SINK, 0, 0, 0, SINK, 1, 0, 0, SINK, 2, 0, 0, SINK, 3, 0, 0);
        for (int local = 0; local <= 3; local++) {
            for (int i = 0; i < 4; i++) {
                labels.drop(0);
            }
            with(labels, 0, CLEAN, local, 0, 0, SINK, 0, 0, 0, SINK, 1, 0, 0, SINK, 2, 0, 0, SINK, 3, 0, 0);
            labels.run(0, 200);
            for (int i = 0; i < 4; i++) {
                due("label " + i + ", CLEAN up to local " + local, labels.hits(i, i), i > local ? 1 : 0);
            }
        }
        sentence("local a becomes none, with one label: the number of this source");
        LabelledFlows source = withMain(SOURCE, 0, 0, 0, SOURCE, 0, 0, 0, SINK, 0, 0, 0, NEW, 1, 0, 0,
                SOURCE, 1, 0, 0, LOAD, 2, 1, 0);
        dueRun("SOURCE", source, 0, 200, 5, STUCK);
        due("the former label is gone", source.hits(0, 0), 0);
        due("the new one is there", source.hits(1, 0), 1);
        sentence("local a becomes what local b is");
        LabelledFlows copy = withMain(SOURCE, 0, 0, 0, COPY, 0, 0, 0, SINK, 0, 0, 0, NEW, 1, 0, 0,
                COPY, 1, 1, 0, LOAD, 2, 1, 0,
                COPY, 0, 1, 0, SINK, 0, 0, 0);
        dueRun("COPY", copy, 0, 200, 8, ENDED);
        due("of a local to itself", copy.hits(0, 0), 1);
        due("over a label", copy.hits(0, 1), 0);
        sentence("local a becomes what field c of local b's object holds, with the labels of local b besides");
        LabelledFlows load = withMain(NEW, 0, 0, 0, SOURCE, 1, 0, 0, STORE, 0, 1, 1, LOAD, 0, 0, 1,
                SINK, 0, 0, 0, LOAD, 0, 0, 0);
        dueRun("LOAD to its own local", load, 0, 200, 5, STUCK);
        due("has the field's label", load.hits(0, 0), 1);
        sentence("field c of local a's object becomes what local b is");
        LabelledFlows store = withMain(NEW, 0, 0, 0, SOURCE, 1, 0, 0, STORE, 0, 1, 0, STORE, 0, 0, 0,
                LOAD, 2, 0, 0, SINK, 2, 0, 0,
                LOAD, 2, 2, 0, LOAD, 2, 2, 1, LOAD, 2, 2, 1);
        dueRun("STORE of itself", store, 0, 200, 8, STUCK);
        due("over a label", store.hits(0, 0), 0);
    }

    private static void sinksAndReturns() {
        sentence("nothing changes");
        LabelledFlows x = withMain(SOURCE, 0, 0, 0, SINK, 0, 0, 0, SINK, 0, 0, 0, NEW, 1, 0, 0, SINK, 1, 0, 0,
                LOAD, 2, 1, 0);
        dueRun("SINK", x, 0, 200, 6, ENDED);
        due("once", x.hits(0, 0), 1);
        due("and once more", x.hits(0, 1), 1);
        sentence("the method ends");
        for (int place = 0; place <= 11; place++) {
            LabelledFlows ends = new LabelledFlows();
            for (int i = 0; i <= 11; i++) {
                with(ends, 0, i == place ? RETURN : CLEAN, 0, 0, 0);
            }
            dueRun("RETURN at place " + place, ends, 0, 200, place + 1, ENDED);
        }
    }

    private static void callsBegin() {
        sentence("TARGET(its class, message) begins, its local 0 what local b is, its local 1 what local c % 4 is, "
                + "its locals 2 and 3 none without labels.");
        for (int local = 0; local <= 3; local++) {
            LabelledFlows x = withCalled(rows(NEW, 0, 0, 0, SOURCE, 1, 0, 0, COPY, 2, 1, 0, COPY, 3, 1, 0,
                    CALL, 2, 0, 1, CALL, 2, 0, 1), SINK, local, 0, 0, SOURCE, 2, 0, 0, COPY, 3, 2, 0);
            dueRun("called twice", x, 0, 200, 6 + 6, ENDED);
            due("local " + local, x.hits(0, 0), local == 1 ? 2 : 0);
            due("local " + local + ", of the former call", x.hits(1, 0), 0);
            LabelledFlows object = withCalled(rows(NEW, 0, 0, 0, NEW, 1, 0, 0, NEW, 2, 0, 0, NEW, 3, 0, 0,
                    CALL, 2, 0, 2),
                    LOAD, 0, local, 0);
            dueRun("an object in local " + local, object, 0, 200, local <= 1 ? 6 : 5, local <= 1 ? ENDED : STUCK);
        }
        LabelledFlows same = withCalled(rows(NEW, 2, 0, 0, CALL, 2, 2, 2, LOAD, 0, 2, 0),
                STORE, 0, 1, 0, LOAD, 3, 1, 0, RETURN, 3, 0, 0);
        dueRun("one local is all three", same, 0, 200, 6, ENDED);
    }

    private static void callsEnd() {
        sentence("When that method ends by RETURN r, local a becomes what its local r is; when it\n"
                + "                   ends at its END, local a becomes none without labels.");
        for (int i = 0; i < 16; i++) {
            int a = i / 4;
            int r = i % 4;
            LabelledFlows x = withCalled(rows(NEW, 0, 0, 0, COPY, 1, 0, 0, CALL, a, 0, 1, SINK, a, 0, 0,
                    LOAD, 1, a, 0),
                    SOURCE, r, 0, 0, RETURN, r, 0, 0);
            dueRun("RETURN " + r + " to " + a, x, 0, 200, 6, STUCK);
            due("the label comes back", x.hits(0, 0), 1);
            LabelledFlows object = withCalled(rows(NEW, 0, 0, 0, SOURCE, 3, 0, 0, COPY, a == 0 ? 2 : a, 3, 0,
                    CALL, a, 0, 0,
                    SINK, a, 0, 0, LOAD, 1, a, 0), COPY, r, 0, 0, RETURN, r, 0, 0);
            dueRun("RETURN " + r + " to " + a, object, 0, 200, 8, ENDED);
            due("local a's former label is gone", object.hits(0, 0), 0);
        }
        for (int a = 0; a <= 3; a++) {
            LabelledFlows x = withCalled(rows(NEW, 0, 0, 0, SOURCE, a == 0 ? 3 : a, 0, 0, CALL, a, 0, 0,
                    SINK, a, 0, 0, LOAD, 1, a, 0),
                    SOURCE, 0, 0, 0);
            dueRun("the END, to " + a, x, 0, 200, 5, STUCK);
            due("no label", x.hits(0, 0) + x.hits(1, 0), 0);
        }
        // By six open methods down and up again.
        LabelledFlows deep = withCalled(rows(NEW, 0, 0, 0, SOURCE, 1, 0, 0, CALL, 3, 0, 1, SINK, 3, 0, 0,
                SINK, 1, 0, 0),
                BRANCH, 4, 0, 0, CALL, 2, 0, 1, SINK, 2, 0, 0, RETURN, 2, 0, 0, RETURN, 1, 0, 0);
        dueRun("six methods", deep, 1 << 4, 200, 3 + 4 * 2 + 2 + 4 * 2 + 2, ENDED);
        due("the label comes back through all", deep.hits(0, 0), 1);
        due("the caller's own is left", deep.hits(0, 1), 1);
        due("and it is in each of them", deep.hits(0, 2), 4);
        LabelledFlows lost = withCalled(rows(NEW, 0, 0, 0, SOURCE, 1, 0, 0, CALL, 3, 0, 1, SINK, 3, 0, 0,
                SINK, 1, 0, 0),
                BRANCH, 11, 0, 0, CALL, 2, 0, 1, SINK, 2, 0, 0, SINK, 1, 0, 0);
        dueRun("six methods, to the END", lost, 1 << 4, 200, 3 + 4 * 2 + 1 + 4 * 2 + 2, ENDED);
        due("nothing comes back", lost.hits(0, 0) + lost.hits(0, 2), 0);
        due("the callers' own are left", lost.hits(0, 1) * 10 + lost.hits(0, 3), 14);
        sentence("Then it goes on at the next place");
        LabelledFlows next = withCalled(rows(NEW, 0, 0, 0, CALL, 1, 0, 0, NEW, 0, 0, 0), NEW, 2, 0, 0,
                RETURN, 2, 0, 0, NEW, 0, 0, 0);
        dueRun("behind a RETURN", next, 0, 200, 5, ENDED);
        due("made", next.made(), 3);
    }

    public static void main(String[] args) {
        runsBegin();
        endsWithoutAStep();
        branchesTakeBits();
        endedBeforeSteps();
        stepsItMay();
        stepsBeforeTheOthers();
        stuckWithoutObject();
        deepWithSix();
        stuckBeforeDeep();
        fullWithTwelve();
        runsBeginAnew();
        fieldsBeginAnew();
        stepsAnswered();
        outcomes();
        hitsCounted();
        madeCounted();
        beyondTheEnd();
        newObjects();
        valuesChanged();
        sinksAndReturns();
        callsBegin();
        callsEnd();
        finish();
    }
}

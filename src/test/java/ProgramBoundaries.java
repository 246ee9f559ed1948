/** The boundary cases of the program that an object holds: what is taken, what is refused, what is forgotten. */
public final class ProgramBoundaries extends Checks {
    private static final int[] NO_METHODS = {LOWEST, -2, -1, 6, 7, 12, 256, HIGHEST};
    private static final int[] NO_CLASSES = {LOWEST, -2, -1, 4, 5, 256, HIGHEST};
    private static final int[] NO_MESSAGES = {LOWEST, -2, -1, 3, 4, 256, HIGHEST};

    private static final String[] CALLS = {
        "add", "drop", "derive", "bind", "target", "size", "analyse", "verdict", "finding", "may",
        "entries", "points", "cell", "run", "outcome", "hits", "made"
    };
    private static final int[] ANSWERS = {5, 1, 1, 1, NONE, 5, 14, 1, 1, 1, 1, 1, 1, 5, 1, 1, 1};

    /** Makes one call on the object of leak(); worked out and run, it is to answer as ANSWERS has it. */
    private static int call(LabelledFlows x, int which) {
        switch (which) {
            case 0: return x.add(0, CLEAN, 0, 0, 0);
            case 1: return x.drop(0) ? 1 : 0;
            case 2: return x.derive(1, 0) ? 1 : 0;
            case 3: return x.bind(0, 0, 1) ? 1 : 0;
            case 4: return x.target(0, 0);
            case 5: return x.size(0);
            case 6: return x.analyse(14);
            case 7: return x.verdict();
            case 8: return x.finding(0, 0) ? 1 : 0;
            case 9: return x.may(0, 5, 4, 0) ? 1 : 0;
            case 10: return x.entries(0);
            case 11: return x.points(0, 1);
            case 12: return x.cell(0, 1);
            case 13: return x.run(0, 200);
            case 14: return x.outcome();
            case 15: return x.hits(0, 0);
            default: return x.made();
        }
    }

    private static void lastCalls() {
        sentence("An object is used for at most 512 calls after it has been made; what later calls answer is free.");
        for (int which = 0; which < CALLS.length; which++) {
            // leak() makes 6 calls.
            LabelledFlows x = leak();
            for (int i = 7; i <= 511; i++) {
                if (i % 2 == 0) {
                    due("analyse as call " + i, x.analyse(14), 14);
                } else {
                    due("run as call " + i, x.run(i, 200), 5);
                }
            }
            due(CALLS[which] + " as call 512", call(x, which), ANSWERS[which]);
            // Their answers are free, but they end.
            for (int i = 0; i < 600; i++) {
                call(x, (which + i) % CALLS.length);
            }
        }
        LabelledFlows changed = leak();
        for (int i = 7; i <= 509; i += 2) {
            due("add as call " + i, changed.add(i % 6, NEW, 0, 0, 0), i % 6 == 0 ? 5 : 0);
            due("drop as call " + (i + 1), changed.drop(i % 6), true);
        }
        due("analyse as call 511", changed.analyse(14), 14);
        due("finding as call 512", changed.finding(0, 0), true);
    }

    private static void methods() {
        sentence("METHODS 0 .. 5; runs begin in method 0.");
        LabelledFlows x = new LabelledFlows();
        for (int m = 1; m <= 5; m++) {
            with(x, m, NEW, 0, 0, 0, CLEAN, 0, 0, 0);
        }
        dueRun("method 0 is empty", x, 0, 200, 0, ENDED);
        due("nothing made", x.made(), 0);
        with(x, 0, NEW, 0, 0, 0);
        dueRun("method 0 has one statement", x, 0, 200, 1, ENDED);
        due("one made", x.made(), 1);
        for (int bad : NO_METHODS) {
            due("add to " + bad, x.add(bad, CLEAN, 0, 0, 0), NONE);
            due("drop of " + bad, x.drop(bad), false);
            due("size of " + bad, x.size(bad), 0);
        }
    }

    private static void theEnd() {
        sentence("A method is a list of STATEMENTS at PLACES 0, 1, ..; the place behind its last statement is "
                + "its END.");
        for (int size = 0; size <= 12; size++) {
            for (int m = 1; m <= 5; m += 4) {
                LabelledFlows x = withMain(NEW, 0, 0, 0, SOURCE, 1, 0, 0, CALL, 2, 0, 1);
                x.bind(0, 0, m);
                for (int i = 0; i < size; i++) {
                    due("place", x.add(m, SINK + (i < 4 ? 0 : 1), 0, 0, 0), i);
                }
                x.analyse(HIGHEST);
                due("a label at the END " + size, x.may(m, size, 1, 0), true);
                due("none beyond the END", x.may(m, size + 1, 1, 0), false);
                due("steps up to the END", x.run(0, 200), 3 + size);
            }
        }
    }

    private static void mostInAMethod() {
        sentence("At most 12 statements in a method");
        for (int m = 0; m <= 5; m++) {
            LabelledFlows x = new LabelledFlows();
            for (int i = 0; i < 12; i++) {
                due("statement " + i + " of method " + m, x.add(m, i % 8 + 3, 0, 0, 0), i);
            }
            for (int kind = 0; kind <= 10; kind++) {
                due("a 13th of kind " + kind, x.add(m, kind, 0, 0, 0), NONE);
            }
            due("size", x.size(m), 12);
            due("another method takes it", x.add((m + 1) % 6, COPY, 0, 0, 0), 0);
            due("drop", x.drop(m), true);
            due("the 12th again", x.add(m, SINK, 0, 0, 0), 11);
            due("a 13th again", x.add(m, SINK, 0, 0, 0), NONE);
        }
    }

    private static void mostInAll() {
        sentence("at most 32 in all");
        int[][] spreads = {{12, 12, 8, 0, 0, 0}, {0, 0, 0, 8, 12, 12}, {6, 6, 5, 5, 5, 5}, {11, 0, 11, 0, 10, 0}};
        for (int[] spread : spreads) {
            LabelledFlows x = new LabelledFlows();
            for (int m = 0; m < 6; m++) {
                for (int i = 0; i < spread[m]; i++) {
                    due("up to the 32nd", x.add(m, i % 8 + 3, 0, 0, 0), i);
                }
            }
            for (int m = 0; m < 6; m++) {
                due("a 33rd, to method " + m, x.add(m, COPY, 0, 0, 0), NONE);
                due("size", x.size(m), spread[m]);
            }
            due("drop", x.drop(4) || x.drop(0), true);
            due("a 32nd, to method 5 or 3", x.add(spread[5] < 12 ? 5 : 3, NEW, 0, 0, 0) >= 0, true);
            due("a 33rd", x.add(spread[5] < 12 ? 5 : 3, COPY, 0, 0, 0), NONE);
        }
    }

    private static void mostOfAKind(int kind, int most) {
        for (int methods = 1; methods <= 6; methods++) {
            LabelledFlows x = new LabelledFlows();
            for (int i = 0; i < most; i++) {
                due("kind " + kind + " number " + i, x.add(i % methods, kind, 0, 0, 0), i / methods);
            }
            for (int m = 0; m < 6; m++) {
                due("one too many of kind " + kind, x.add(m, kind, 0, 0, 0), NONE);
            }
            for (int other = 0; other <= 10; other++) {
                due("another kind", x.add(5, other, 0, 0, 0) >= 0, other != kind);
            }
            due("drop", x.drop(0), true);
            due("one for the dropped one", x.add(1, kind, 0, 0, 0) >= 0, true);
            due("and no more", x.add(0, kind, 0, 0, 0), NONE);
        }
    }

    private static void mostOfKinds() {
        sentence("of them at most 6 NEW, 4 SOURCE and 4 SINK.");
        mostOfAKind(NEW, 6);
        mostOfAKind(SOURCE, 4);
        mostOfAKind(SINK, 4);
        for (int kind = CLEAN; kind <= RETURN; kind++) {
            LabelledFlows x = new LabelledFlows();
            for (int i = 0; i < 32; i++) {
                due("kind " + kind + " has no limit of its own", x.add(i / 12, kind, 0, 0, 0), i % 12);
            }
            due("but that of all", x.add(3, kind, 0, 0, 0), NONE);
        }
    }

    private static void locals() {
        sentence("Every method has LOCALS 0 .. 3.");
        for (int m = 0; m <= 5; m++) {
            LabelledFlows x = new LabelledFlows();
            if (m != 0) {
                with(x, 0, NEW, 0, 3, 0, CALL, 0, 0, 0);
                x.bind(3, 0, m);
            }
            for (int local = 0; local <= 3; local++) {
                due("NEW in local " + local, x.add(m, NEW, local, 0, 0), local);
            }
            due("NEW in local 4", x.add(m, NEW, 4, 0, 0), NONE);
            due("NEW in local -1", x.add(m, NEW, -1, 0, 0), NONE);
            x.analyse(HIGHEST);
            for (int local = 0; local <= 3; local++) {
                int own = m == 0 ? 1 << local : 2 << local;
                int given = m != 0 && local <= 1 ? 1 : 0;
                due("points " + m + " " + local, x.points(m, local), own | given);
                due("an empty method's locals", x.points((m + 1) % 6, local), m == 5 && local == 0 ? 1 : 0);
            }
            due("points of local 4", x.points(m, 4), NONE);
            due("points of local -1", x.points(m, -1), NONE);
        }
    }

    private static void classesFieldsMessages() {
        sentence("CLASSES 0 .. 3; objects have FIELDS 0\nand 1; MESSAGES 0 .. 2.");
        for (int c = 0; c <= 3; c++) {
            for (int g = 0; g <= 2; g++) {
                LabelledFlows x = withMain(NEW, 0, c, 0, CALL, 1, 0, g * 4);
                dueRun("nothing is bound yet", x, 0, 200, 1, STUCK);
                due("bind", x.bind(c, g, 1), true);
                dueRun("class " + c + " message " + g, x, 0, 200, 2, ENDED);
            }
        }
        for (int f = 0; f <= 1; f++) {
            LabelledFlows x = withMain(NEW, 0, 0, 0, SOURCE, 1, 0, 0, STORE, 0, 1, f, LOAD, 2, 0, f, SINK, 2, 0, 0,
                    LOAD, 3, 0, 1 - f, SINK, 3, 0, 0);
            x.analyse(HIGHEST);
            x.run(0, 200);
            due("field " + f, x.finding(0, 0), true);
            due("the other field", x.finding(0, 1), false);
            due("field " + f, x.hits(0, 0), 1);
            due("the other field", x.hits(0, 1), 0);
        }
        LabelledFlows x = new LabelledFlows();
        for (int bad : NO_CLASSES) {
            due("NEW of class " + bad, x.add(0, NEW, 0, bad, 0), NONE);
        }
        for (int bad : new int[] {LOWEST, -1, 2, 3, HIGHEST}) {
            due("LOAD of field " + bad, x.add(0, LOAD, 0, 0, bad), NONE);
            due("STORE to field " + bad, x.add(0, STORE, 0, 0, bad), NONE);
        }
        due("size", x.size(0), 0);
    }

    private static void parentsAreLower() {
        sentence("A class may have a parent, a class of lower number");
        for (int c = 0; c <= 3; c++) {
            for (int p = 0; p <= 3; p++) {
                LabelledFlows x = new LabelledFlows();
                x.bind(p, 0, 2);
                due("derive(" + c + ", " + p + ")", x.derive(c, p), p < c);
                due("its target then, with its own bound one", x.target(c, 0), p <= c ? 2 : NONE);
            }
        }
    }

    private static void targets() {
        sentence("TARGET(c, g) is the method bound for class c and message g; when none is, that of c's parent, "
                + "and so on; none when c has no parent then.");
        for (int binder = 0; binder <= 3; binder++) {
            for (int method = 0; method <= 5; method++) {
                LabelledFlows x = new LabelledFlows();
                x.derive(1, 0);
                x.derive(2, 1);
                x.derive(3, 2);
                x.bind(binder, 1, method);
                for (int c = 0; c <= 3; c++) {
                    due("class " + c + ", bound for " + binder, x.target(c, 1), c >= binder ? method : NONE);
                    due("another message", x.target(c, 0), NONE);
                    due("another message", x.target(c, 2), NONE);
                }
                if (binder < 3) {
                    x.bind(binder + 1, 1, 5 - method);
                    due("the nearest one goes first", x.target(3, 1), 5 - method);
                    due("and does not go down", x.target(binder, 1), method);
                    x.bind(binder + 1, 1, NONE);
                    due("bound no more", x.target(3, 1), method);
                    x.derive(binder + 1, NONE);
                    due("cut off", x.target(3, 1), NONE);
                    x.derive(3, binder);
                    due("a step over classes", x.target(3, 1), method);
                }
            }
        }
    }

    private static void numbersByMethods() {
        sentence("the NEW statements of the program are numbered 0, 1, .. in the order of their methods, "
                + "in a method by places: a NEW's number is its SITE.");
        LabelledFlows x = new LabelledFlows();
        x.bind(0, 0, 1);
        with(x, 1, NEW, 2, 0, 0, NEW, 3, 1, 0);
        with(x, 0, NEW, 0, 0, 0, CALL, 1, 0, 0);
        x.analyse(HIGHEST);
        due("added last, it is the first", x.points(0, 0), 1);
        due("then by places", x.points(1, 2), 2);
        due("then by places", x.points(1, 3), 4);
        with(x, 0, NEW, 3, 2, 0);
        x.analyse(HIGHEST);
        due("one more in method 0", x.points(0, 3), 2);
        due("shifts the others", x.points(1, 2), 4);
        due("shifts the others", x.points(1, 3), 8);
        with(x, 2, NEW, 0, 0, 0, NEW, 0, 0, 0);
        x.analyse(HIGHEST);
        due("one in a later method does not", x.points(1, 3), 8);
        x.drop(0);
        x.analyse(HIGHEST);
        due("a drop shifts them back", x.points(1, 3), 4);
        LabelledFlows six = withMain(NEW, 0, 0, 0, NEW, 0, 1, 0, NEW, 0, 2, 0, NEW, 0, 3, 0, NEW, 0, 0, 0,
                NEW, 3, 3, 0);
        six.analyse(HIGHEST);
        due("the last site is 5", six.points(0, 3), 32);
        due("five sites", six.points(0, 0), 31);
    }

    private static void numbersOfEachKind() {
        sentence("SOURCE and SINK statements are numbered likewise, each kind for itself.");
        LabelledFlows x = new LabelledFlows();
        x.bind(0, 0, 5);
        with(x, 5, SOURCE, 2, 0, 0, SINK, 2, 0, 0, SINK, 3, 0, 0);
        with(x, 0, NEW, 0, 0, 0, CALL, 1, 0, 0);
        x.analyse(HIGHEST);
        x.run(0, 200);
        due("a NEW before them does not count", x.finding(0, 0), true);
        due("nor in a run", x.hits(0, 0), 1);
        due("the second SINK", x.finding(0, 1), false);
        with(x, 0, SOURCE, 3, 0, 0, SOURCE, 3, 0, 0, SINK, 3, 0, 0);
        x.analyse(HIGHEST);
        x.run(0, 200);
        for (int s = 0; s <= 3; s++) {
            for (int t = 0; t <= 3; t++) {
                boolean comes = s == 1 && t == 0 || s == 2 && t == 1;
                due("finding(" + s + ", " + t + ")", x.finding(s, t), comes);
                due("hits(" + s + ", " + t + ")", x.hits(s, t), comes ? 1 : 0);
            }
        }
        LabelledFlows four = withMain(SOURCE, 0, 0, 0, SINK, 0, 0, 0, SOURCE, 0, 0, 0, SINK, 0, 0, 0,
                SOURCE, 0, 0, 0, SINK, 0, 0, 0, SOURCE, 0, 0, 0, SINK, 0, 0, 0);
        four.analyse(HIGHEST);
        four.run(0, 200);
        for (int i = 0; i < 16; i++) {
            due("source " + i / 4 + " and sink " + i % 4, four.finding(i / 4, i % 4), i / 4 == i % 4);
            due("source " + i / 4 + " and sink " + i % 4, four.hits(i / 4, i % 4), i / 4 == i % 4 ? 1 : 0);
        }
    }

    /** By kind, how many values each operand has; 0 for one that is not named. */
    private static final int[][] RANGES = {
        {4, 4, 0}, {4, 0, 0}, {4, 0, 0}, {4, 0, 0}, {4, 4, 0}, {4, 4, 2},
        {4, 4, 2}, {4, 4, 12}, {12, 0, 0}, {12, 0, 0}, {4, 0, 0}
    };

    private static final int[] ANY = {LOWEST, -100, -2, -1, 0, 1, 2, 3, 4, 5, 10, 11, 12, 13, 31, 32, 256, HIGHEST};

    private static void operandsNotNamed() {
        sentence("STATEMENTS, by kind, with operands a, b, c (those not named are not looked at):");
        for (int kind = 0; kind <= 10; kind++) {
            for (int any : ANY) {
                int b = RANGES[kind][1] == 0 ? any : 1;
                int c = RANGES[kind][2] == 0 ? any : 1;
                LabelledFlows plain = withMain(NEW, 0, 0, 0, NEW, 1, 0, 0, SOURCE, 2, 0, 0, STORE, 1, 2, 0);
                LabelledFlows odd = withMain(NEW, 0, 0, 0, NEW, 1, 0, 0, SOURCE, 2, 0, 0, STORE, 1, 2, 0);
                plain.bind(0, 0, 1);
                odd.bind(0, 0, 1);
                int plainB = RANGES[kind][1] == 0 ? 0 : 1;
                int plainC = RANGES[kind][2] == 0 ? 0 : 1;
                due("add", plain.add(0, kind, 1, plainB, plainC), 4);
                due("add with " + any, odd.add(0, kind, 1, b, c), 4);
                due("analyse", odd.analyse(HIGHEST), plain.analyse(HIGHEST));
                due("run", odd.run(1, 50), plain.run(1, 50));
                dueSame("kind " + kind + " with " + any, answers(odd), answers(plain));
            }
        }
    }

    private static void messageAndArgument() {
        sentence("message c / 4 is sent to local b's object with local c % 4 (c is 0 .. 11)");
        for (int c = 0; c <= 11; c++) {
            LabelledFlows x = withMain(NEW, 0, 0, 0, SOURCE, 1, 0, 0, SOURCE, 2, 0, 0, SOURCE, 3, 0, 0);
            for (int g = 0; g <= 2; g++) {
                x.bind(0, g, g + 1);
                with(x, g + 1, SINK, 1, 0, 0);
            }
            due("CALL with c " + c, x.add(0, CALL, 0, 0, c), 4);
            x.analyse(HIGHEST);
            x.run(0, 200);
            for (int g = 0; g <= 2; g++) {
                due("the method's receiver", x.points(g + 1, 0), g == c / 4 ? 1 : 0);
                due("the method's argument", x.points(g + 1, 1), c == g * 4 ? 1 : 0);
                for (int s = 0; s <= 2; s++) {
                    boolean comes = g == c / 4 && s + 1 == c % 4;
                    due("c " + c + ", source " + s + " in method " + (g + 1), x.finding(s, g), comes);
                    due("c " + c + ", source " + s + " in method " + (g + 1), x.hits(s, g), comes ? 1 : 0);
                }
            }
        }
        LabelledFlows x = new LabelledFlows();
        for (int bad : new int[] {LOWEST, -4, -1, 12, 13, 16, HIGHEST}) {
            due("CALL with c " + bad, x.add(0, CALL, 0, 0, bad), NONE);
        }
    }

    private static void jumpsTaken() {
        sentence("it goes on at place a or at the next place (a is 0 .. 11;");
        for (int kind = BRANCH; kind <= GOTO; kind++) {
            for (int a = 0; a <= 11; a++) {
                LabelledFlows x = new LabelledFlows();
                due("kind " + kind + " to " + a, x.add(5, kind, a, 0, 0), 0);
            }
            for (int bad : new int[] {LOWEST, -2, -1, 12, 13, HIGHEST}) {
                LabelledFlows x = new LabelledFlows();
                due("kind " + kind + " to " + bad, x.add(5, kind, bad, 0, 0), NONE);
                due("size", x.size(5), 0);
            }
        }
    }

    private static void nothingInANewObject() {
        sentence("No statements, no parents, nothing bound; no verdict, no run.");
        LabelledFlows x = new LabelledFlows();
        for (int m = 0; m <= 5; m++) {
            due("size", x.size(m), 0);
            due("entries", x.entries(m), NONE);
            due("drop", x.drop(m), false);
        }
        for (int i = 0; i < 12; i++) {
            due("target", x.target(i / 3, i % 3), NONE);
            due("cell", x.cell(i / 2, i % 2), NONE);
        }
        due("verdict", x.verdict(), 0);
        due("outcome", x.outcome(), 0);
        due("made", x.made(), 0);
        due("hits", x.hits(0, 0), 0);
        for (int c = 0; c <= 2; c++) {
            x.bind(c, 0, c);
            for (int child = c + 1; child <= 3; child++) {
                due("class " + child + " has no parent", x.target(child, 0), NONE);
            }
        }
        leak().analyse(HIGHEST);
        due("nor has it another object's", new LabelledFlows().verdict(), 0);
    }

    private static void addTakes() {
        sentence("Puts a statement behind the last one of a method and answers its place;");
        LabelledFlows x = new LabelledFlows();
        int[] sizes = new int[6];
        for (int i = 0; i < 32; i++) {
            int m = i * 5 % 6;
            due("add to method " + m, x.add(m, CLEAN, 0, 0, 0), sizes[m]);
            sizes[m]++;
        }
        LabelledFlows order = withMain(SOURCE, 0, 0, 0, SINK, 0, 0, 0, CLEAN, 0, 0, 0, SINK, 0, 0, 0);
        order.run(0, 200);
        due("behind, not before", order.hits(0, 0), 1);
        due("behind, not before", order.hits(0, 1), 0);
    }

    private static void addRefuses() {
        sentence("NONE when the method is not 0 .. 5, the kind is not 0 .. 10, a named operand is not of its range "
                + "(locals 0 .. 3, classes 0 .. 3, fields 0 and 1, c of CALL and places 0 .. 11),");
        for (int kind = 0; kind <= 10; kind++) {
            LabelledFlows x = new LabelledFlows();
            for (int m = 0; m <= 5; m++) {
                due("kind " + kind + " to method " + m, x.add(m, kind, 0, 0, 0) >= 0, m < 4 || kind < 1 || kind > 2);
            }
            for (int bad : NO_METHODS) {
                due("kind " + kind + " to method " + bad, x.add(bad, kind, 0, 0, 0), NONE);
            }
        }
        for (int bad : new int[] {LOWEST, -2, -1, 11, 12, 16, 256, HIGHEST}) {
            due("kind " + bad, new LabelledFlows().add(0, bad, 0, 0, 0), NONE);
        }
        for (int kind = 0; kind <= 10; kind++) {
            for (int operand = 0; operand < 3; operand++) {
                for (int value : ANY) {
                    int range = RANGES[kind][operand];
                    int[] abc = {range == 0 ? 3 : 0, 0, 0};
                    abc[operand] = value;
                    boolean fits = range == 0 || value >= 0 && value < range;
                    LabelledFlows x = new LabelledFlows();
                    String what = "kind " + kind + " operand " + operand + " " + value;
                    due(what, x.add(0, kind, abc[0], abc[1], abc[2]), fits ? 0 : NONE);
                    due(what + ", then size", x.size(0), fits ? 1 : 0);
                }
            }
        }
    }

    private static void addHasRoom() {
        sentence("or there are as many statements as there may be in the method, in all, or of the kind.");
        // One limit alone is met in each; one statement less, and it is taken.
        LabelledFlows method = new LabelledFlows();
        for (int i = 0; i < 11; i++) {
            method.add(3, COPY, 0, 0, 0);
        }
        due("the last of a method", method.add(3, NEW, 0, 0, 0), 11);
        due("its method is full", method.add(3, NEW, 0, 0, 0), NONE);
        LabelledFlows all = new LabelledFlows();
        for (int i = 0; i < 31; i++) {
            all.add(i % 6, COPY, 0, 0, 0);
        }
        due("the last of all", all.add(5, NEW, 0, 0, 0), 5);
        due("all is full", all.add(0, NEW, 0, 0, 0), NONE);
        int[] most = {6, 4, 4};
        for (int kind = NEW; kind <= SINK; kind++) {
            LabelledFlows x = new LabelledFlows();
            for (int i = 0; i < most[kind] - 1; i++) {
                x.add(0, kind, 0, 0, 0);
            }
            due("the last of kind " + kind, x.add(1, kind, 0, 0, 0), 0);
            due("the kind is full", x.add(1, kind, 0, 0, 0), NONE);
            // A refused one is not counted.
            x.drop(1);
            due("the last of kind " + kind + " again", x.add(2, kind, 0, 0, 0), 0);
        }
    }

    private static void dropTakes() {
        sentence("Takes away the last statement of a method: true; false when the method is not 0 .. 5 or has none.");
        for (int m = 0; m <= 5; m++) {
            LabelledFlows x = new LabelledFlows();
            with(x, m, CLEAN, 0, 0, 0, COPY, 0, 0, 0);
            due("the second", x.drop(m), true);
            due("size", x.size(m), 1);
            due("the first", x.drop(m), true);
            due("size", x.size(m), 0);
            due("none is left", x.drop(m), false);
            due("size", x.size(m), 0);
            due("the next one is at place 0", x.add(m, CLEAN, 0, 0, 0), 0);
        }
        for (int bad : NO_METHODS) {
            LabelledFlows x = leak();
            due("drop of " + bad, x.drop(bad), false);
            due("size", x.size(0), 5);
        }
        LabelledFlows last = withMain(SOURCE, 0, 0, 0, SINK, 0, 0, 0, CLEAN, 0, 0, 0, SINK, 0, 0, 0);
        last.drop(0);
        last.run(0, 200);
        due("the last one, not the first", last.hits(0, 0), 1);
        LabelledFlows full = new LabelledFlows();
        for (int i = 0; i < 12; i++) {
            full.add(2, CLEAN, 0, 0, 0);
        }
        for (int i = 11; i >= 0; i--) {
            due("drop of " + i, full.drop(2), true);
            due("size", full.size(2), i);
        }
        due("none is left", full.drop(2), false);
    }

    private static void deriveTakes() {
        sentence("The parent of class c becomes p, or none when p is NONE: true; "
                + "false when c is not 0 .. 3 or p is neither NONE nor 0 .. c - 1.");
        for (int c = -2; c <= 5; c++) {
            for (int p = -3; p <= 5; p++) {
                LabelledFlows x = new LabelledFlows();
                boolean fits = c >= 0 && c <= 3 && p >= -1 && p < c;
                due("derive(" + c + ", " + p + ")", x.derive(c, p), fits);
            }
        }
        for (int far : new int[] {LOWEST, HIGHEST}) {
            LabelledFlows x = new LabelledFlows();
            due("derive(" + far + ", 0)", x.derive(far, 0), false);
            due("derive(" + far + ", NONE)", x.derive(far, NONE), false);
            due("derive(3, " + far + ")", x.derive(3, far), false);
            due("derive(" + far + ", " + far + ")", x.derive(far, far), false);
        }
        LabelledFlows x = new LabelledFlows();
        x.bind(0, 2, 4);
        x.bind(1, 2, 5);
        due("a parent", x.derive(2, 0) && x.target(2, 2) == 4, true);
        due("another one", x.derive(2, 1) && x.target(2, 2) == 5, true);
        due("refused: itself", x.derive(2, 2), false);
        due("refused: a higher one", x.derive(2, 3), false);
        due("refused: below NONE", x.derive(2, -2), false);
        due("the former one is left", x.target(2, 2), 5);
        due("none", x.derive(2, NONE), true);
        due("so there is no target", x.target(2, 2), NONE);
        due("class 0 can have none", x.derive(0, NONE), true);
        due("but not itself", x.derive(0, 0), false);
    }

    private static void bindTakes() {
        sentence("The method bound for class c and a message becomes method, or none when method is NONE: true; "
                + "false when c is not 0 .. 3, the message is not 0 .. 2, or method is neither NONE nor 0 .. 5.");
        for (int c = -1; c <= 4; c++) {
            for (int g = -1; g <= 3; g++) {
                LabelledFlows x = new LabelledFlows();
                boolean there = c >= 0 && c <= 3 && g >= 0 && g <= 2;
                for (int m = 7; m >= -3; m--) {
                    boolean fits = there && m >= -1 && m <= 5;
                    due("bind(" + c + ", " + g + ", " + m + ")", x.bind(c, g, m), fits);
                    int bound = m > 5 || !there || m < 0 ? NONE : m;
                    due("target", x.target(c, g), bound);
                }
                for (int i = 0; i < 12; i++) {
                    due("no other", x.target(i / 3, i % 3), NONE);
                }
            }
        }
        LabelledFlows x = new LabelledFlows();
        x.bind(3, 2, 5);
        for (int bad : new int[] {LOWEST, -2, 6, 7, 256, HIGHEST}) {
            due("bind of " + bad, x.bind(3, 2, bad), false);
            due("the former one is left", x.target(3, 2), 5);
        }
        for (int bad : NO_CLASSES) {
            due("bind for class " + bad, x.bind(bad, 2, 1), false);
        }
        for (int bad : NO_MESSAGES) {
            due("bind for message " + bad, x.bind(3, bad, 1), false);
        }
        for (int i = 0; i < 12; i++) {
            due("the others are none", x.target(i / 3, i % 3), i == 11 ? 5 : NONE);
        }
    }

    private static void targetAnswers() {
        sentence("TARGET(c, message); NONE when there is none, or c is not 0 .. 3, or the message is not 0 .. 2.");
        LabelledFlows x = new LabelledFlows();
        for (int i = 0; i < 12; i++) {
            x.bind(i / 3, i % 3, i % 6);
        }
        for (int i = 0; i < 12; i++) {
            due("target", x.target(i / 3, i % 3), i % 6);
        }
        for (int bad : NO_CLASSES) {
            for (int g = 0; g <= 2; g++) {
                due("class " + bad, x.target(bad, g), NONE);
            }
        }
        for (int bad : NO_MESSAGES) {
            for (int c = 0; c <= 3; c++) {
                due("message " + bad, x.target(c, bad), NONE);
            }
        }
        x.bind(2, 1, NONE);
        due("there is none", x.target(2, 1), NONE);
    }

    private static void sizeAnswers() {
        sentence("The number of statements of a method; 0 when it is not 0 .. 5.");
        LabelledFlows x = new LabelledFlows();
        for (int m = 0; m <= 5; m++) {
            for (int i = 0; i <= m; i++) {
                x.add(m, CLEAN, 0, 0, 0);
            }
        }
        for (int m = 0; m <= 5; m++) {
            due("size", x.size(m), m + 1);
        }
        for (int bad : NO_METHODS) {
            due("size of " + bad, x.size(bad), 0);
        }
    }

    private static LabelledFlows prepared() {
        LabelledFlows x = leak();
        x.derive(3, 1);
        x.bind(1, 1, 0);
        return x;
    }

    /** Calls that are done on the object of prepared(); from number 5 on nothing is different by them. */
    private static boolean change(LabelledFlows x, int which) {
        switch (which) {
            case 0: return x.add(0, CLEAN, 0, 0, 0) == 5;
            case 1: return x.add(5, CLEAN, 0, 0, 0) == 0;
            case 2: return x.drop(0);
            case 3: return x.derive(2, 0);
            case 4: return x.bind(0, 0, 1);
            case 5: return x.derive(0, NONE);
            case 6: return x.derive(2, NONE);
            case 7: return x.derive(3, 1);
            case 8: return x.bind(2, 2, NONE);
            case 9: return x.bind(1, 1, 0);
            default: return x.add(2, NEW, 0, 0, 0) == 0 && x.drop(2);
        }
    }

    private static void changesForget() {
        sentence("What was worked out, and the latest run, belong to the program as it was: when a call of add, "
                + "drop, derive or bind does what it is to do (it answers true or a place, also when nothing is "
                + "different by it), there is no verdict and no run any more.");
        for (int which = 0; which <= 10; which++) {
            for (int limit = 0; limit <= 14; limit += 14) {
                LabelledFlows x = prepared();
                x.analyse(limit);
                x.run(0, 200);
                due("verdict before", x.verdict(), limit == 0 ? INCOMPLETE : COMPLETE);
                due("outcome before", x.outcome(), ENDED);
                due("change " + which, change(x, which), true);
                due("verdict after " + which, x.verdict(), 0);
                due("outcome after " + which, x.outcome(), 0);
                due("made after " + which, x.made(), 0);
                due("hits after " + which, x.hits(0, 0), 0);
                due("finding after " + which, x.finding(0, 0), false);
                due("may after " + which, x.may(0, 1, 0, 0), false);
                due("entries after " + which, x.entries(0), NONE);
                due("points after " + which, x.points(0, 1), NONE);
                due("cell after " + which, x.cell(0, 1), NONE);
                x.run(0, 200);
                due("a run brings no verdict", x.verdict(), 0);
                x.analyse(HIGHEST);
                due("now there is a verdict", x.verdict(), COMPLETE);
                due("and a run", x.outcome(), ENDED);
            }
        }
        for (int which = 0; which <= 10; which++) {
            LabelledFlows same = prepared();
            change(same, which);
            same.run(0, 200);
            due("after change " + which + " a run alone", same.verdict() * 10 + same.outcome(), ENDED);
        }
    }

    private static final int REFUSED = 29;

    /** Calls that are refused by the object of crowded(). */
    private static boolean refused(LabelledFlows x, int which) {
        switch (which) {
            case 0: return x.add(6, CLEAN, 0, 0, 0) == NONE;
            case 1: return x.add(-1, CLEAN, 0, 0, 0) == NONE;
            case 2: return x.add(3, 11, 0, 0, 0) == NONE;
            case 3: return x.add(3, -1, 0, 0, 0) == NONE;
            case 4: return x.add(3, NEW, 0, 4, 0) == NONE;
            case 5: return x.add(3, SOURCE, 4, 0, 0) == NONE;
            case 6: return x.add(3, COPY, 0, -1, 0) == NONE;
            case 7: return x.add(3, LOAD, 0, 0, 2) == NONE;
            case 8: return x.add(3, CALL, 0, 0, 12) == NONE;
            case 9: return x.add(3, BRANCH, 12, 0, 0) == NONE;
            case 10: return x.add(3, GOTO, -1, 0, 0) == NONE;
            case 11: return x.add(2, CLEAN, 0, 0, 0) == NONE;
            case 12: return x.add(3, SINK, 0, 0, 0) == NONE;
            case 13: return !x.drop(6);
            case 14: return !x.drop(-1);
            case 15: return !x.drop(4);
            case 16: return !x.derive(4, 0);
            case 17: return !x.derive(-1, NONE);
            case 18: return !x.derive(2, 2);
            case 19: return !x.derive(2, -2);
            case 20: return !x.bind(4, 0, 0);
            case 21: return !x.bind(-1, 0, 0);
            case 22: return !x.bind(0, 3, 0);
            case 23: return !x.bind(0, -1, 0);
            case 24: return !x.bind(0, 0, 6);
            case 25: return !x.bind(0, 0, -2);
            case 26: return x.target(4, 0) == NONE && x.target(0, 3) == NONE && x.size(6) == 0;
            case 27: return !x.finding(4, 0) && !x.may(6, 0, 0, 0) && x.hits(0, 4) == 0;
            default: return x.entries(6) == NONE && x.points(0, 4) == NONE && x.cell(6, 0) == NONE;
        }
    }

    /** The program of leak() with two bound methods and a parent, method 2 full, and no SINK left. */
    private static LabelledFlows crowded() {
        LabelledFlows x = leak();
        x.bind(0, 0, 2);
        x.bind(1, 1, 3);
        x.derive(2, 1);
        for (int i = 0; i < 12; i++) {
            x.add(2, i < 3 ? SINK : COPY, 1, 0, 0);
        }
        return with(x, 0, CALL, 2, 1, 0);
    }

    private static void refusedCallsChangeNothing() {
        sentence("A refused call changes nothing.");
        for (int which = 0; which < REFUSED; which++) {
            LabelledFlows x = crowded();
            int paths = x.analyse(HIGHEST);
            int steps = x.run(0, 200);
            String before = answers(x);
            due("call " + which + " is refused", refused(x, which), true);
            dueSame("after refused call " + which, answers(x), before);
            due("paths after refused call " + which, x.analyse(HIGHEST), paths);
            due("steps after refused call " + which, x.run(0, 200), steps);
            dueSame("worked out and run again after call " + which, answers(x), before);
            due("the next place", x.add(3, NEW, 0, 0, 0), 0);
        }
        for (int which = 0; which < REFUSED; which++) {
            LabelledFlows x = crowded();
            refused(x, which);
            due("no verdict after refused call " + which, x.verdict(), 0);
            due("no run after refused call " + which, x.outcome(), 0);
            x.analyse(0);
            refused(x, which);
            due("verdict after refused call " + which, x.verdict(), INCOMPLETE);
            due("no run after refused call " + which, x.outcome(), 0);
            x.run(0, 1);
            refused(x, which);
            due("outcome after refused call " + which, x.outcome(), STEPS);
        }
        LabelledFlows full = crowded();
        for (int i = 0; i < 14; i++) {
            full.add(4 + i % 2, CLEAN, 0, 0, 0);
        }
        full.analyse(HIGHEST);
        full.run(0, 200);
        String before = answers(full);
        due("a 33rd", full.add(3, CLEAN, 0, 0, 0), NONE);
        dueSame("after a refused 33rd", answers(full), before);
    }

    public static void main(String[] args) {
        lastCalls();
        methods();
        theEnd();
        mostInAMethod();
        mostInAll();
        mostOfKinds();
        locals();
        classesFieldsMessages();
        parentsAreLower();
        targets();
        numbersByMethods();
        numbersOfEachKind();
        operandsNotNamed();
        messageAndArgument();
        jumpsTaken();
        nothingInANewObject();
        addTakes();
        addRefuses();
        addHasRoom();
        dropTakes();
        deriveTakes();
        bindTakes();
        targetAnswers();
        sizeAnswers();
        changesForget();
        refusedCallsChangeNothing();
        finish();
    }
}

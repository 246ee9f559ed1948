/** What the tests share: the document's numbers, ways to build programs, and a count of wrong answers. */
abstract class Checks {
    static final int NEW = 0;
    static final int SOURCE = 1;
    static final int SINK = 2;
    static final int CLEAN = 3;
    static final int COPY = 4;
    static final int LOAD = 5;
    static final int STORE = 6;
    static final int CALL = 7;
    static final int BRANCH = 8;
    static final int GOTO = 9;
    static final int RETURN = 10;

    static final int COMPLETE = 1;
    static final int INCOMPLETE = 2;

    static final int ENDED = 1;
    static final int STEPS = 2;
    static final int STUCK = 3;
    static final int DEEP = 4;
    static final int FULL = 5;

    static final int NONE = -1;
    static final int LOWEST = Integer.MIN_VALUE;
    static final int HIGHEST = Integer.MAX_VALUE;

    private static String sentence = "";
    private static int sentences = 0;
    private static int wrong = 0;

    /** Begins the test of one sentence of the document. */
    static void sentence(String text) {
        sentence = text;
        sentences++;
    }

    static void due(String what, long got, long want) {
        if (got != want) {
            wrong++;
            if (!sentence.isEmpty()) {
                System.out.println("\"" + sentence + "\":");
            }
            System.out.println("    " + what + " answered " + got + ", due is " + want);
        }
    }

    static void due(String what, boolean got, boolean want) {
        due(what, got ? 1 : 0, want ? 1 : 0);
    }

    /** Adds to one method statements that are all taken: kind, a, b, c of each. */
    static LabelledFlows with(LabelledFlows x, int method, int... rows) {
        int first = x.size(method);
        for (int i = 0; i < rows.length; i += 4) {
            due("add of a statement that fits",
                    x.add(method, rows[i], rows[i + 1], rows[i + 2], rows[i + 3]), first + i / 4);
        }
        return x;
    }

    static LabelledFlows withMain(int... rows) {
        return with(new LabelledFlows(), 0, rows);
    }

    /** A program whose class 0 has method 1 for message 0. */
    static LabelledFlows withCalled(int[] main, int... called) {
        LabelledFlows x = new LabelledFlows();
        x.bind(0, 0, 1);
        with(x, 0, main);
        return with(x, 1, called);
    }

    static int[] rows(int... numbers) {
        return numbers;
    }

    static void dueRun(String what, LabelledFlows x, int choices, int n, int steps, int outcome) {
        due(what + ": steps", x.run(choices, n), steps);
        due(what + ": outcome", x.outcome(), outcome);
    }

    /** SOURCE 0, and an object that has the label in field 0 and itself in field 1: 14 paths, 5 steps. */
    static LabelledFlows leak() {
        return withMain(SOURCE, 0, 0, 0, NEW, 1, 0, 0, STORE, 1, 0, 0, STORE, 1, 1, 1, SINK, 0, 0, 0);
    }

    /** What an object answers to some 85 questions, as one text. */
    static String answers(LabelledFlows x) {
        StringBuilder text = new StringBuilder();
        text.append(x.verdict()).append(' ').append(x.outcome()).append(' ').append(x.made());
        for (int m = 0; m < 6; m++) {
            text.append(" method ").append(x.size(m)).append(' ').append(x.entries(m));
            for (int local = 0; local < 4; local++) {
                text.append(' ').append(x.points(m, local));
            }
        }
        for (int i = 0; i < 12; i++) {
            text.append(" and ").append(x.target(i / 3, i % 3)).append(' ').append(x.cell(i / 2, i % 2));
        }
        for (int i = 0; i < 4; i++) {
            text.append(' ').append(x.finding(i / 2, i % 2)).append(' ').append(x.hits(i / 2, i % 2));
        }
        for (int place = 0; place < 6; place++) {
            text.append(' ').append(x.may(0, place, 0, 0)).append(' ').append(x.may(0, place, 4, 0));
        }
        return text.toString();
    }

    static void dueSame(String what, String got, String want) {
        if (!got.equals(want)) {
            due(what + ": " + got + " instead of " + want, 1, 0);
        }
    }

    static void finish() {
        if (sentences > 0) {
            System.out.println(sentences + " sentences of the document were tested");
        }
        System.out.println(wrong == 0 ? "all answers are as due" : wrong + " answers are not as due");
        if (wrong != 0) {
            System.exit(1);
        }
    }
}

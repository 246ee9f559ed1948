import java.util.ArrayDeque;
import java.util.ArrayList;
import java.util.Arrays;
import java.util.HashSet;
import java.util.List;
import java.util.Set;
import java.util.TreeSet;

/**
 * Holds LabelledFlows against a slow model that follows the words of the document's Terms one by
 * one, over many made-up programs, and looks whether each hit of a run is a finding.
 */
public final class AgainstTheTerms {
    private static final int PROGRAMS = 6000;
    private static final int MOST_CALLS = 512;
    private static int wrong = 0;
    private static long seed = 20261115L;

    /** Numbers that are the same each time the test is run. */
    private static int pick(int bound) {
        seed = seed * 6364136223846793005L + 1442695040888963407L;
        return (int) ((seed >>> 33) % bound);
    }

    private record Statement(int kind, int a, int b, int c) { }

    private record Fact(int label, int site, int place) {
        static final Fact ZERO = new Fact(-1, -1, -1);

        static Fact local(int label, int x) {
            return new Fact(label, -1, x);
        }

        static Fact field(int label, int site, int f) {
            return new Fact(label, site, f);
        }

        boolean isZero() {
            return label < 0;
        }

        boolean isLocal() {
            return label >= 0 && site < 0;
        }

        boolean isField() {
            return site >= 0;
        }

        boolean isLocal(int x) {
            return isLocal() && place == x;
        }
    }

    private record Held(int method, Fact entry, int place, Fact fact) { }

    private record Entry(int method, Fact fact) { }

    /** The program, as lists. */
    private static final class Model {
        final List<List<Statement>> methods = new ArrayList<>();
        final int[] parents = {-1, -1, -1, -1};
        final int[][] bound = new int[4][3];

        final List<List<Set<Integer>>> points = new ArrayList<>();
        final List<List<Set<Integer>>> cells = new ArrayList<>();
        final Set<Integer> reached = new TreeSet<>();
        final Set<Entry> entries = new HashSet<>();
        final Set<Held> held = new HashSet<>();

        int steps;
        int outcome;
        int made;
        int[][] hits;

        Model() {
            for (int m = 0; m < 6; m++) {
                methods.add(new ArrayList<>());
            }
            for (int[] row : bound) {
                Arrays.fill(row, -1);
            }
        }

        int count(int kind) {
            int found = 0;
            for (List<Statement> method : methods) {
                for (Statement statement : method) {
                    found += statement.kind == kind ? 1 : 0;
                }
            }
            return found;
        }

        int total() {
            int found = 0;
            for (int kind = 0; kind <= 10; kind++) {
                found += count(kind);
            }
            return found;
        }

        int number(int method, int place) {
            int kind = methods.get(method).get(place).kind;
            int before = 0;
            for (int m = 0; m <= method; m++) {
                int end = m == method ? place : methods.get(m).size();
                for (int k = 0; k < end; k++) {
                    before += methods.get(m).get(k).kind == kind ? 1 : 0;
                }
            }
            return before;
        }

        int classOfSite(int site) {
            for (int m = 0; m < 6; m++) {
                for (int k = 0; k < methods.get(m).size(); k++) {
                    Statement statement = methods.get(m).get(k);
                    if (statement.kind == 0 && number(m, k) == site) {
                        return statement.b;
                    }
                }
            }
            throw new IllegalStateException("no such site");
        }

        int target(int c, int message) {
            if (bound[c][message] != -1) {
                return bound[c][message];
            }
            return parents[c] == -1 ? -1 : target(parents[c], message);
        }

        static boolean in(int x, int from, int to) {
            return from <= x && x <= to;
        }

        int add(int method, int kind, int a, int b, int c) {
            if (!in(method, 0, 5) || !in(kind, 0, 10)) {
                return -1;
            }
            int mostA = kind == 8 || kind == 9 ? 11 : 3;
            boolean namesB = kind == 0 || (kind >= 4 && kind <= 7);
            boolean namesC = kind >= 5 && kind <= 7;
            int mostC = kind == 7 ? 11 : 1;
            if (!in(a, 0, mostA) || (namesB && !in(b, 0, 3)) || (namesC && !in(c, 0, mostC))) {
                return -1;
            }
            int mostOfKind = kind == 0 ? 6 : kind == 1 || kind == 2 ? 4 : 32;
            if (methods.get(method).size() == 12 || total() == 32 || count(kind) == mostOfKind) {
                return -1;
            }
            methods.get(method).add(new Statement(kind, a, b, c));
            return methods.get(method).size() - 1;
        }

        Set<Integer> targetsOf(int m, Statement call) {
            Set<Integer> targets = new TreeSet<>();
            for (int o : points.get(m).get(call.b)) {
                int t = target(classOfSite(o), call.c / 4);
                if (t != -1) {
                    targets.add(t);
                }
            }
            return targets;
        }

        void workOut() {
            workOutPoints();
            entries.clear();
            held.clear();
            entries.add(new Entry(0, Fact.ZERO));
            int before = -1;
            while (before != entries.size() + held.size()) {
                before = entries.size() + held.size();
                for (Entry entry : new ArrayList<>(entries)) {
                    held.add(new Held(entry.method, entry.fact, 0, entry.fact));
                }
                for (Held h : new ArrayList<>(held)) {
                    if (h.place < methods.get(h.method).size()) {
                        follow(h);
                    }
                }
            }
        }

        private void workOutPoints() {
            points.clear();
            cells.clear();
            for (int i = 0; i < 6; i++) {
                points.add(new ArrayList<>());
                cells.add(new ArrayList<>());
                for (int x = 0; x < 4; x++) {
                    points.get(i).add(new TreeSet<>());
                }
                for (int f = 0; f < 2; f++) {
                    cells.get(i).add(new TreeSet<>());
                }
            }
            reached.clear();
            reached.add(0);
            boolean grew = true;
            while (grew) {
                grew = false;
                for (int m : new ArrayList<>(reached)) {
                    for (int k = 0; k < methods.get(m).size(); k++) {
                        grew |= followPoints(m, k);
                    }
                }
            }
        }

        private boolean followPoints(int m, int k) {
            Statement st = methods.get(m).get(k);
            List<Set<Integer>> p = points.get(m);
            boolean grew = false;
            if (st.kind == 0) {
                grew = p.get(st.a).add(number(m, k));
            } else if (st.kind == 4) {
                grew = p.get(st.a).addAll(p.get(st.b));
            } else if (st.kind == 5) {
                for (int o : new ArrayList<>(p.get(st.b))) {
                    grew |= p.get(st.a).addAll(cells.get(o).get(st.c));
                }
            } else if (st.kind == 6) {
                for (int o : p.get(st.a)) {
                    grew |= cells.get(o).get(st.c).addAll(p.get(st.b));
                }
            } else if (st.kind == 7) {
                for (int o : new ArrayList<>(p.get(st.b))) {
                    int t = target(classOfSite(o), st.c / 4);
                    if (t != -1) {
                        grew |= reached.add(t);
                        grew |= points.get(t).get(0).add(o);
                        grew |= points.get(t).get(1).addAll(new ArrayList<>(p.get(st.c % 4)));
                        for (Statement back : methods.get(t)) {
                            if (back.kind == 10) {
                                grew |= p.get(st.a).addAll(new ArrayList<>(points.get(t).get(back.a)));
                            }
                        }
                    }
                }
            }
            return grew;
        }

        private Set<Integer> goesOn(Statement st, int m, int k) {
            Set<Integer> places = new TreeSet<>();
            if (st.kind == 8 || st.kind == 9) {
                places.add(Math.min(st.a, methods.get(m).size()));
            }
            if (st.kind != 9 && st.kind != 10) {
                places.add(k + 1);
            }
            return places;
        }

        private void follow(Held h) {
            Statement st = methods.get(h.method).get(h.place);
            Fact d = h.fact;
            for (int next : goesOn(st, h.method, h.place)) {
                for (Fact after : directlyAfter(st, h.method, h.place, d)) {
                    held.add(new Held(h.method, h.entry, next, after));
                }
            }
            if (st.kind == 7) {
                for (int t : targetsOf(h.method, st)) {
                    for (Fact given : gives(st, d)) {
                        entries.add(new Entry(t, given));
                        for (Fact back : comesBack(st, t, given)) {
                            held.add(new Held(h.method, h.entry, h.place + 1, back));
                        }
                    }
                }
            }
        }

        private List<Fact> directlyAfter(Statement st, int m, int k, Fact d) {
            List<Fact> after = new ArrayList<>();
            if (d.isZero()) {
                after.add(d);
                if (st.kind == 1) {
                    after.add(Fact.local(number(m, k), st.a));
                }
            } else if (st.kind == 7) {
                if (d.isLocal() && d.place != st.a) {
                    after.add(d);
                }
            } else if (d.isLocal()) {
                boolean writesA = st.kind == 0 || st.kind == 1 || (st.kind >= 3 && st.kind <= 5);
                if (!(writesA && d.place == st.a)) {
                    after.add(d);
                }
                if ((st.kind == 4 || st.kind == 5) && d.place == st.b) {
                    after.add(Fact.local(d.label, st.a));
                }
                if (st.kind == 6 && d.place == st.b) {
                    for (int o : points.get(m).get(st.a)) {
                        after.add(Fact.field(d.label, o, st.c));
                    }
                }
            } else {
                after.add(d);
                if (st.kind == 5 && d.place == st.c && points.get(m).get(st.b).contains(d.site)) {
                    after.add(Fact.local(d.label, st.a));
                }
            }
            return after;
        }

        private static List<Fact> gives(Statement call, Fact d) {
            List<Fact> given = new ArrayList<>();
            if (!d.isLocal()) {
                given.add(d);
            }
            if (d.isLocal(call.b)) {
                given.add(Fact.local(d.label, 0));
            }
            if (d.isLocal(call.c % 4)) {
                given.add(Fact.local(d.label, 1));
            }
            return given;
        }

        private Set<Fact> comesBack(Statement call, int t, Fact entry) {
            Set<Fact> back = new HashSet<>();
            int end = methods.get(t).size();
            for (Held h : held) {
                if (h.method == t && h.entry.equals(entry)) {
                    Statement at = h.place == end ? null : methods.get(t).get(h.place);
                    if (at == null || at.kind == 10) {
                        if (h.fact.isField()) {
                            back.add(h.fact);
                        }
                        if (at != null && h.fact.isLocal(at.a)) {
                            back.add(Fact.local(h.fact.label, call.a));
                        }
                    }
                }
            }
            return back;
        }

        boolean may(int m, int k, int where, int s) {
            Fact fact = where < 4 ? Fact.local(s, where) : Fact.field(s, (where - 4) / 2, where % 2);
            for (Held h : held) {
                if (h.method == m && h.place == k && h.fact.equals(fact)) {
                    return true;
                }
            }
            return false;
        }

        boolean finding(int s, int t) {
            for (int m = 0; m < 6; m++) {
                for (int k = 0; k < methods.get(m).size(); k++) {
                    Statement st = methods.get(m).get(k);
                    if (st.kind == 2 && number(m, k) == t) {
                        return may(m, k, st.a, s);
                    }
                }
            }
            return false;
        }

        int entries(int m) {
            int found = 0;
            for (Entry entry : entries) {
                found += entry.method == m ? 1 : 0;
            }
            return found;
        }

        static int sum(Set<Integer> sites) {
            int sum = 0;
            for (int o : sites) {
                sum += 1 << o;
            }
            return sum;
        }

        void run(int choices, int n) {
            int may = Math.min(200, Math.max(0, n));
            ArrayDeque<Frame> frames = new ArrayDeque<>();
            frames.push(new Frame(0));
            steps = 0;
            made = 0;
            outcome = 0;
            hits = new int[4][4];
            int branches = 0;
            while (outcome == 0) {
                while (!frames.isEmpty()
                        && frames.peek().place >= methods.get(frames.peek().method).size()) {
                    end(frames, new Value(null, Set.of()));
                }
                outcome = over(frames, may);
                if (outcome != 0) {
                    return;
                }
                steps++;
                Frame frame = frames.peek();
                Statement st = methods.get(frame.method).get(frame.place);
                Value[] x = frame.locals;
                int number = number(frame.method, frame.place);
                frame.place++;
                switch (st.kind) {
                    case 0 -> {
                        x[st.a] = new Value(new Thing(st.b), Set.of());
                        made++;
                    }
                    case 1 -> x[st.a] = new Value(null, Set.of(number));
                    case 2 -> x[st.a].labels.forEach(s -> hits[s][number]++);
                    case 3 -> x[st.a] = new Value(x[st.a].thing, Set.of());
                    case 4 -> x[st.a] = x[st.b];
                    case 5 -> {
                        Value read = x[st.b].thing.fields[st.c];
                        Set<Integer> labels = new TreeSet<>(read.labels);
                        labels.addAll(x[st.b].labels);
                        x[st.a] = new Value(read.thing, labels);
                    }
                    case 6 -> x[st.a].thing.fields[st.c] = x[st.b];
                    case 7 -> {
                        Frame next = new Frame(target(x[st.b].thing.ofClass, st.c / 4));
                        next.locals[0] = x[st.b];
                        next.locals[1] = x[st.c % 4];
                        frames.push(next);
                    }
                    case 8 -> {
                        if ((choices & (1 << (branches % 32))) != 0) {
                            frame.place = st.a;
                        }
                        branches++;
                    }
                    case 9 -> frame.place = st.a;
                    default -> end(frames, x[st.a]);
                }
            }
        }

        private void end(ArrayDeque<Frame> frames, Value result) {
            frames.pop();
            if (!frames.isEmpty()) {
                Frame caller = frames.peek();
                caller.locals[methods.get(caller.method).get(caller.place - 1).a] = result;
            }
        }

        private int over(ArrayDeque<Frame> frames, int may) {
            if (frames.isEmpty()) {
                return 1;
            }
            if (steps == may) {
                return 2;
            }
            Frame frame = frames.peek();
            Statement st = methods.get(frame.method).get(frame.place);
            if (st.kind >= 5 && st.kind <= 7) {
                Thing thing = frame.locals[st.kind == 6 ? st.a : st.b].thing;
                if (thing == null || (st.kind == 7 && target(thing.ofClass, st.c / 4) == -1)) {
                    return 3;
                }
            }
            if (st.kind == 7 && frames.size() == 6) {
                return 4;
            }
            return st.kind == 0 && made == 12 ? 5 : 0;
        }
    }

    private record Value(Thing thing, Set<Integer> labels) { }

    private static final class Thing {
        final int ofClass;
        final Value[] fields = {new Value(null, Set.of()), new Value(null, Set.of())};

        Thing(int ofClass) {
            this.ofClass = ofClass;
        }
    }

    private static final class Frame {
        final int method;
        int place = 0;
        final Value[] locals = new Value[4];

        Frame(int method) {
            this.method = method;
            Arrays.fill(locals, new Value(null, Set.of()));
        }
    }

    /** One made-up program, in the class and in the model. */
    private static final class Trial {
        final int id;
        final LabelledFlows flows = new LabelledFlows();
        final Model model = new Model();
        final StringBuilder story = new StringBuilder();
        int calls = 0;
        int verdict = 0;
        boolean ran = false;
        int told = 0;

        Trial(int id) {
            this.id = id;
        }

        void due(String call, long got, long want) {
            calls++;
            story.append(call).append("; ");
            if (got != want) {
                wrong++;
                told++;
                if (told == 1 && wrong < 20) {
                    System.out.println("program " + id + ": " + call + " answered " + got
                            + ", due is " + want + " after " + story);
                }
            }
        }

        void changedIf(boolean done) {
            if (done) {
                verdict = 0;
                ran = false;
            }
        }

        void add(int m, int kind, int a, int b, int c) {
            int want = model.add(m, kind, a, b, c);
            changedIf(want != -1);
            due("add(" + m + ", " + kind + ", " + a + ", " + b + ", " + c + ")",
                    flows.add(m, kind, a, b, c), want);
        }

        void drop(int m) {
            boolean want = m >= 0 && m < 6 && !model.methods.get(m).isEmpty();
            if (want) {
                model.methods.get(m).remove(model.methods.get(m).size() - 1);
            }
            changedIf(want);
            due("drop(" + m + ")", flows.drop(m) ? 1 : 0, want ? 1 : 0);
        }

        void derive(int c, int p) {
            boolean want = c >= 0 && c <= 3 && p >= -1 && p < c;
            if (want) {
                model.parents[c] = p;
            }
            changedIf(want);
            due("derive(" + c + ", " + p + ")", flows.derive(c, p) ? 1 : 0, want ? 1 : 0);
        }

        void bind(int c, int g, int m) {
            boolean want = c >= 0 && c <= 3 && g >= 0 && g <= 2 && m >= -1 && m <= 5;
            if (want) {
                model.bound[c][g] = m;
            }
            changedIf(want);
            due("bind(" + c + ", " + g + ", " + m + ")", flows.bind(c, g, m) ? 1 : 0, want ? 1 : 0);
        }

        void analyse(int limit) {
            model.workOut();
            int paths = model.held.size();
            verdict = paths <= limit ? 1 : 2;
            due("analyse(" + limit + ")", flows.analyse(limit), paths <= limit ? paths : -1);
        }

        void run(int choices, int n) {
            model.run(choices, n);
            ran = true;
            due("run(" + choices + ", " + n + ")", flows.run(choices, n), model.steps);
        }

        boolean isSource(int s) {
            return s >= 0 && s < model.count(1);
        }

        boolean isSink(int t) {
            return t >= 0 && t < model.count(2);
        }

        void askFinding(int s, int t) {
            boolean want = verdict == 1 && isSource(s) && isSink(t) && model.finding(s, t);
            due("finding(" + s + ", " + t + ")", flows.finding(s, t) ? 1 : 0, want ? 1 : 0);
        }

        void askMay(int m, int k, int where, int s) {
            boolean want = verdict == 1 && m >= 0 && m < 6 && k >= 0
                    && k <= model.methods.get(m).size() && where >= 0 && where < 16
                    && isSource(s) && model.may(m, k, where, s);
            due("may(" + m + ", " + k + ", " + where + ", " + s + ")",
                    flows.may(m, k, where, s) ? 1 : 0, want ? 1 : 0);
        }

        void askHits(int s, int t) {
            int want = ran && isSource(s) && isSink(t) ? model.hits[s][t] : 0;
            due("hits(" + s + ", " + t + ")", flows.hits(s, t), want);
            if (want > 0 && verdict == 1) {
                due("finding(" + s + ", " + t + ") behind its hit", flows.finding(s, t) ? 1 : 0, 1);
            }
        }

        void askSmall() {
            due("verdict()", flows.verdict(), verdict);
            due("outcome()", flows.outcome(), ran ? model.outcome : 0);
            due("made()", flows.made(), ran ? model.made : 0);
        }

        void askAllOfAnalysis() {
            for (int m = -1; m <= 6; m++) {
                boolean isMethod = m >= 0 && m < 6;
                due("size(" + m + ")", flows.size(m), isMethod ? model.methods.get(m).size() : 0);
                boolean known = verdict == 1 && isMethod;
                due("entries(" + m + ")", flows.entries(m), known ? model.entries(m) : -1);
                int x = pick(6) - 1;
                boolean isLocal = x >= 0 && x < 4;
                due("points(" + m + ", " + x + ")", flows.points(m, x),
                        known && isLocal ? Model.sum(model.points.get(m).get(x)) : -1);
            }
            for (int o = -1; o <= 6; o++) {
                for (int f = -1; f <= 2; f++) {
                    boolean known = verdict == 1 && o >= 0 && o < 6 && f >= 0 && f < 2;
                    due("cell(" + o + ", " + f + ")", flows.cell(o, f),
                            known ? Model.sum(model.cells.get(o).get(f)) : -1);
                }
            }
            for (int i = 0; i < 16; i++) {
                askFinding(i / 4, i % 4);
            }
        }

        void askAboutRun() {
            for (int i = 0; i < 16; i++) {
                askHits(i / 4, i % 4);
            }
        }
    }

    // Kinds that make values flow come more often than those that cut them off.
    private static final int[] KINDS = {
        0, 0, 0, 1, 1, 2, 2, 3, 4, 4, 5, 5, 5, 6, 6, 6, 7, 7, 7, 7, 8, 8, 9, 10, 10
    };

    private static int nearly(int bound) {
        int way = pick(60);
        return way == 0 ? -1 : way == 1 ? bound : way == 2 ? pick(2000) - 1000 : pick(bound);
    }

    private static void addAny(Trial trial, int methods) {
        int kind = pick(80) == 0 ? pick(14) - 1 : KINDS[pick(KINDS.length)];
        int m = pick(80) == 0 ? pick(9) - 1 : pick(methods);
        int a = nearly(kind == 8 || kind == 9 ? 12 : 4);
        int c = nearly(kind == 7 ? 12 : 2);
        trial.add(m, kind, a, nearly(4), c);
    }

    /** Objects in the first locals, so that fewer runs are stuck soon. */
    private static void addBeginning(Trial trial) {
        trial.add(0, 0, 0, pick(4), 0);
        trial.add(0, 0, 1, pick(4), 0);
        trial.add(0, 1, 2 + pick(2), 0, 0);
    }

    private static void build(Trial trial) {
        int methods = 1 + pick(6);
        for (int i = pick(10); i > 0; i--) {
            trial.derive(nearly(4), pick(4) - 1);
        }
        for (int i = pick(16); i > 0; i--) {
            trial.bind(nearly(4), nearly(3), pick(9) == 0 ? pick(9) - 2 : pick(methods));
        }
        if (pick(3) != 0) {
            addBeginning(trial);
        }
        for (int i = pick(45); i > 0; i--) {
            addAny(trial, methods);
        }
    }

    // No kind that takes a value away, but what writes over it.
    private static final int[] RICH_KINDS = {1, 2, 4, 5, 5, 6, 6, 6, 7, 7, 7, 8, 8};

    /** A program through which many facts flow: all is bound, and little is cut off. */
    private static void buildRich(Trial trial) {
        int methods = 2 + pick(4);
        for (int i = 0; i < 12; i++) {
            trial.bind(i / 3, i % 3, pick(methods));
        }
        addBeginning(trial);
        trial.add(0, 0, 2 + pick(2), pick(4), 0);
        trial.add(0, 6, pick(2), 2 + pick(2), pick(2));
        for (int i = 0; i < 22; i++) {
            int kind = RICH_KINDS[pick(RICH_KINDS.length)];
            int m = pick(methods);
            int a = kind == 8 ? pick(12) : kind == 6 || kind == 2 ? pick(4) : 2 + pick(2);
            trial.add(m, kind, a, pick(kind == 7 ? 2 : 4), pick(kind == 7 ? 12 : 2));
        }
        for (int m = 1; m < methods; m++) {
            if (pick(3) != 0) {
                trial.add(m, 10, pick(4), 0, 0);
            }
        }
    }

    private static void changeABit(Trial trial, int way) {
        switch (way) {
            case 0 -> addAny(trial, 6);
            case 1 -> trial.drop(nearly(6));
            case 2 -> trial.derive(nearly(4), pick(4) - 1);
            case 3 -> trial.bind(nearly(4), nearly(3), pick(8) - 1);
            default -> { }
        }
    }

    private static int anyLimit(Trial trial) {
        trial.model.workOut();
        int paths = trial.model.held.size();
        int way = pick(12);
        return way == 0 ? paths - 1 : way == 1 ? paths : way == 2 ? -pick(5) : 100000;
    }

    private static void look(Trial trial) {
        for (int i = 0; i < 3; i++) {
            trial.run(pick(1 << 20) * 4096 + pick(4096), pick(4) == 0 ? pick(30) - 3 : 150 + pick(100));
            trial.askSmall();
            trial.askAboutRun();
        }
        trial.askAllOfAnalysis();
        for (int m = 0; m < 6; m++) {
            for (int g = -1; g <= 3; g++) {
                int c = pick(6) - 1;
                boolean known = c >= 0 && c < 4 && g >= 0 && g < 3;
                trial.due("target(" + c + ", " + g + ")", trial.flows.target(c, g),
                        known ? trial.model.target(c, g) : -1);
            }
        }
        for (int i = 0; i < 60; i++) {
            int m = nearly(6);
            int size = m >= 0 && m < 6 ? trial.model.methods.get(m).size() : 3;
            trial.askMay(m, nearly(size + 1), nearly(16), nearly(Math.max(1, trial.model.count(1))));
        }
    }

    public static void main(String[] args) {
        int biggest = 0;
        int[] outcomes = new int[6];
        for (int id = 0; id < PROGRAMS; id++) {
            Trial trial = new Trial(id);
            trial.askSmall();
            if (id % 3 == 0) {
                buildRich(trial);
            } else {
                build(trial);
            }
            trial.analyse(anyLimit(trial));
            biggest = Math.max(biggest, trial.model.held.size());
            look(trial);
            outcomes[trial.model.outcome]++;
            while (trial.calls < MOST_CALLS - 60) {
                changeABit(trial, pick(6));
                trial.askSmall();
                if (pick(2) == 0) {
                    trial.analyse(anyLimit(trial));
                }
                if (pick(2) == 0) {
                    trial.run(pick(64), 200);
                }
                trial.askSmall();
                trial.askFinding(pick(4), pick(4));
                trial.askHits(pick(4), pick(4));
            }
        }
        System.out.println("most paths " + biggest + ", outcomes " + Arrays.toString(outcomes));
        System.out.println(wrong == 0 ? "all answers are as due" : wrong + " answers are not as due");
        if (wrong != 0) {
            System.exit(1);
        }
    }
}

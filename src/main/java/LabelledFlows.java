import java.util.Arrays;

/**
 * Holds a small program over objects, works out from which sources labelled values may come to
 * which sinks in any of its runs, and makes single runs in which values carry their labels.
 */
public final class LabelledFlows {
    public static final int NONE = -1;

    private static final int METHODS = 6;
    private static final int MOST_IN_METHOD = 12;
    private static final int MOST_IN_ALL = 32;
    // The END of a method is a place too.
    private static final int PLACES = MOST_IN_METHOD + 1;
    // A spot is a place of the whole program: method * PLACES + place.
    private static final int SPOTS = METHODS * PLACES;
    private static final int LOCALS = 4;
    private static final int CLASSES = 4;
    private static final int FIELDS = 2;
    private static final int MESSAGES = 3;
    private static final int SITES = 6;
    private static final int SOURCES = 4;
    private static final int SINKS = 4;

    private static final int NEW = 0;
    private static final int SOURCE = 1;
    private static final int SINK = 2;
    private static final int CLEAN = 3;
    private static final int COPY = 4;
    private static final int LOAD = 5;
    private static final int STORE = 6;
    private static final int CALL = 7;
    private static final int BRANCH = 8;
    private static final int GOTO = 9;
    private static final int RETURN = 10;
    private static final int KINDS = 11;

    private static final int NO_VERDICT = 0;
    private static final int COMPLETE = 1;
    private static final int INCOMPLETE = 2;

    private static final int NO_RUN = 0;
    private static final int ENDED = 1;
    private static final int STEPS = 2;
    private static final int STUCK = 3;
    private static final int DEEP = 4;
    private static final int FULL = 5;

    // Every round of a search but its last finds something new, and there is far less to find.
    private static final int MOST_ROUNDS = 1000000;

    private final Program program;
    private final Pointing pointing;
    private final Flow flow;
    private final Machine machine;
    private int latestVerdict;

    public LabelledFlows() {
        program = new Program();
        pointing = new Pointing(program);
        flow = new Flow(program, pointing);
        machine = new Machine(program);
        latestVerdict = NO_VERDICT;
    }

    public int add(int method, int kind, int a, int b, int c) {
        if (!program.takes(method, kind) || !operandsFit(kind, a, b, c)) {
            return NONE;
        }
        int place = program.append(method, kind, a, b, c);
        forget();
        return place;
    }

    public boolean drop(int method) {
        if (!isBelow(method, METHODS) || program.sizes[method] == 0) {
            return false;
        }
        program.cutLast(method);
        forget();
        return true;
    }

    public boolean derive(int c, int p) {
        if (!isBelow(c, CLASSES) || (p != NONE && !isBelow(p, c))) {
            return false;
        }
        program.parents[c] = p;
        forget();
        return true;
    }

    public boolean bind(int c, int message, int method) {
        if (!isBelow(c, CLASSES) || !isBelow(message, MESSAGES)
                || (method != NONE && !isBelow(method, METHODS))) {
            return false;
        }
        program.bound[c * MESSAGES + message] = method;
        forget();
        return true;
    }

    public int target(int c, int message) {
        if (!isBelow(c, CLASSES) || !isBelow(message, MESSAGES)) {
            return NONE;
        }
        return program.targetOf(c, message);
    }

    public int size(int method) {
        return isBelow(method, METHODS) ? program.sizes[method] : 0;
    }

    public int analyse(int limit) {
        pointing.workOut();
        flow.workOut();
        int paths = flow.countPaths();
        if (paths > limit) {
            latestVerdict = INCOMPLETE;
            return NONE;
        }
        latestVerdict = COMPLETE;
        return paths;
    }

    public int verdict() {
        return latestVerdict;
    }

    public boolean finding(int s, int t) {
        if (latestVerdict != COMPLETE || !isSource(s) || !isSink(t)) {
            return false;
        }
        int spot = program.sinkSpots[t];
        return flow.mayHold(spot / PLACES, spot, program.as[spot], s);
    }

    public boolean may(int method, int place, int where, int s) {
        if (latestVerdict != COMPLETE || !isBelow(method, METHODS) || !isSource(s)) {
            return false;
        }
        if (!isBelow(place, program.sizes[method] + 1) || !isBelow(where, Flow.WHERES)) {
            return false;
        }
        return flow.mayHold(method, method * PLACES + place, where, s);
    }

    public int entries(int method) {
        if (latestVerdict != COMPLETE || !isBelow(method, METHODS)) {
            return NONE;
        }
        return flow.countEntries(method);
    }

    public int points(int method, int x) {
        if (latestVerdict != COMPLETE || !isBelow(method, METHODS) || !isBelow(x, LOCALS)) {
            return NONE;
        }
        return pointing.locals[method * LOCALS + x];
    }

    public int cell(int o, int f) {
        if (latestVerdict != COMPLETE || !isBelow(o, SITES) || !isBelow(f, FIELDS)) {
            return NONE;
        }
        return pointing.cells[o * FIELDS + f];
    }

    public int run(int choices, int n) {
        return machine.start(choices, n);
    }

    public int outcome() {
        return machine.ending;
    }

    public int hits(int s, int t) {
        if (machine.ending == NO_RUN || !isSource(s) || !isSink(t)) {
            return 0;
        }
        return machine.hitCounts[s * SINKS + t];
    }

    public int made() {
        return machine.ending == NO_RUN ? 0 : machine.objects;
    }

    private void forget() {
        latestVerdict = NO_VERDICT;
        machine.ending = NO_RUN;
    }

    private boolean isSource(int s) {
        return isBelow(s, program.counts[SOURCE]);
    }

    private boolean isSink(int t) {
        return isBelow(t, program.counts[SINK]);
    }

    private static boolean isBelow(int number, int bound) {
        return number >= 0 && number < bound;
    }

    private static boolean has(int set, int member) {
        return ((set >>> member) & 1) != 0;
    }

    private static boolean operandsFit(int kind, int a, int b, int c) {
        switch (kind) {
            case NEW:
                return isBelow(a, LOCALS) && isBelow(b, CLASSES);
            case COPY:
                return isBelow(a, LOCALS) && isBelow(b, LOCALS);
            case LOAD:
            case STORE:
                return isBelow(a, LOCALS) && isBelow(b, LOCALS) && isBelow(c, FIELDS);
            case CALL:
                return isBelow(a, LOCALS) && isBelow(b, LOCALS) && isBelow(c, MESSAGES * LOCALS);
            case BRANCH:
            case GOTO:
                return isBelow(a, MOST_IN_METHOD);
            default:
                return isBelow(a, LOCALS);
        }
    }

    /** The statements, the classes' parents, and what is bound. */
    private static final class Program {
        private static final int[] MOST_OF_KIND = {
            SITES, SOURCES, SINKS, MOST_IN_ALL, MOST_IN_ALL, MOST_IN_ALL,
            MOST_IN_ALL, MOST_IN_ALL, MOST_IN_ALL, MOST_IN_ALL, MOST_IN_ALL
        };

        // By spots; what stands at a method's END and behind it is never looked at.
        final int[] kinds;
        final int[] as;
        final int[] bs;
        final int[] cs;
        // A statement's number among those of its kind: for a NEW, its site.
        final int[] numbers;

        final int[] sizes;
        final int[] counts;
        final int[] siteClasses;
        final int[] sinkSpots;
        final int[] parents;
        final int[] bound;
        int total;

        Program() {
            kinds = new int[SPOTS];
            as = new int[SPOTS];
            bs = new int[SPOTS];
            cs = new int[SPOTS];
            numbers = new int[SPOTS];
            sizes = new int[METHODS];
            counts = new int[KINDS];
            siteClasses = new int[SITES];
            sinkSpots = new int[SINKS];
            parents = new int[CLASSES];
            bound = new int[CLASSES * MESSAGES];
            Arrays.fill(parents, NONE);
            Arrays.fill(bound, NONE);
        }

        boolean takes(int method, int kind) {
            return isBelow(method, METHODS) && isBelow(kind, KINDS)
                    && sizes[method] < MOST_IN_METHOD && total < MOST_IN_ALL
                    && counts[kind] < MOST_OF_KIND[kind];
        }

        int append(int method, int kind, int a, int b, int c) {
            int place = sizes[method];
            int spot = method * PLACES + place;
            kinds[spot] = kind;
            as[spot] = a;
            bs[spot] = b;
            cs[spot] = c;
            sizes[method]++;
            total++;
            renumber();
            return place;
        }

        void cutLast(int method) {
            sizes[method]--;
            total--;
            renumber();
        }

        // A statement in an early method shifts the numbers of all later ones.
        private void renumber() {
            Arrays.fill(counts, 0);
            for (int method = 0; method < METHODS; method++) {
                for (int place = 0; place < sizes[method]; place++) {
                    int spot = method * PLACES + place;
                    int kind = kinds[spot];
                    int number = counts[kind];
                    counts[kind]++;
                    numbers[spot] = number;
                    if (kind == NEW) {
                        siteClasses[number] = bs[spot];
                    } else if (kind == SINK) {
                        sinkSpots[number] = spot;
                    }
                }
            }
        }

        int targetOf(int c, int message) {
            int owner = c;
            for (int up = 0; up < CLASSES && owner != NONE; up++) {
                int method = bound[owner * MESSAGES + message];
                if (method != NONE) {
                    return method;
                }
                owner = parents[owner];
            }
            return NONE;
        }

        /** The spot to which the BRANCH or GOTO at a spot of the method leads. */
        int jumpSpot(int method, int spot) {
            return method * PLACES + Math.min(as[spot], sizes[method]);
        }
    }

    /** WHAT POINTS WHERE: sets of sites, each an int with a bit for each site. */
    private static final class Pointing {
        private final Program program;
        final int[] locals;
        final int[] cells;
        // For each CALL's spot, the set of its targets.
        final int[] targets;
        private int reached;
        private boolean grew;

        Pointing(Program program) {
            this.program = program;
            locals = new int[METHODS * LOCALS];
            cells = new int[SITES * FIELDS];
            targets = new int[SPOTS];
        }

        void workOut() {
            Arrays.fill(locals, 0);
            Arrays.fill(cells, 0);
            Arrays.fill(targets, 0);
            reached = 1;
            grew = true;
            for (int round = 0; grew && round < MOST_ROUNDS; round++) {
                grew = false;
                sweep();
            }
        }

        private void sweep() {
            for (int method = 0; method < METHODS; method++) {
                if (has(reached, method)) {
                    for (int place = 0; place < program.sizes[method]; place++) {
                        follow(method, method * PLACES + place);
                    }
                }
            }
        }

        private void follow(int method, int spot) {
            int a = program.as[spot];
            int b = program.bs[spot];
            int c = program.cs[spot];
            switch (program.kinds[spot]) {
                case NEW:
                    growLocal(method, a, 1 << program.numbers[spot]);
                    break;
                case COPY:
                    growLocal(method, a, locals[method * LOCALS + b]);
                    break;
                case LOAD:
                    growLocal(method, a, fieldOfAll(locals[method * LOCALS + b], c));
                    break;
                case STORE:
                    growFields(locals[method * LOCALS + a], c, locals[method * LOCALS + b]);
                    break;
                case CALL:
                    followCall(method, spot);
                    break;
                default:
                    break;
            }
        }

        private void followCall(int method, int spot) {
            int message = program.cs[spot] / LOCALS;
            int argument = program.cs[spot] % LOCALS;
            int receivers = locals[method * LOCALS + program.bs[spot]];
            for (int site = 0; site < SITES; site++) {
                int target = has(receivers, site)
                        ? program.targetOf(program.siteClasses[site], message) : NONE;
                if (target != NONE) {
                    reach(spot, target);
                    growLocal(target, 0, 1 << site);
                    growLocal(target, 1, locals[method * LOCALS + argument]);
                    growLocal(method, program.as[spot], returned(target));
                }
            }
        }

        private void reach(int spot, int target) {
            targets[spot] |= 1 << target;
            if (!has(reached, target)) {
                reached |= 1 << target;
                grew = true;
            }
        }

        private void growLocal(int method, int local, int sites) {
            int index = method * LOCALS + local;
            if ((sites & ~locals[index]) != 0) {
                locals[index] |= sites;
                grew = true;
            }
        }

        private void growFields(int owners, int field, int sites) {
            for (int site = 0; site < SITES; site++) {
                int index = site * FIELDS + field;
                if (has(owners, site) && (sites & ~cells[index]) != 0) {
                    cells[index] |= sites;
                    grew = true;
                }
            }
        }

        private int fieldOfAll(int owners, int field) {
            int sites = 0;
            for (int site = 0; site < SITES; site++) {
                if (has(owners, site)) {
                    sites |= cells[site * FIELDS + field];
                }
            }
            return sites;
        }

        private int returned(int method) {
            int sites = 0;
            for (int place = 0; place < program.sizes[method]; place++) {
                int spot = method * PLACES + place;
                if (program.kinds[spot] == RETURN) {
                    sites |= locals[method * LOCALS + program.as[spot]];
                }
            }
            return sites;
        }
    }

    /**
     * FACTS, and where they hold. A fact other than ZERO is a label and a WHERE (a local, or
     * 4 + 2 * site + field), as in the promise of may. No rule but that of SOURCE looks at the
     * label, so what holds under (s, where) is the same for all s, and is kept once. A MODE is
     * thus a where, for all entry facts with it; or WHERES + s, for what holds with label s
     * under the entry fact ZERO. The facts of a mode at a spot are a set of wheres.
     */
    private static final class Flow {
        static final int WHERES = LOCALS + SITES * FIELDS;
        private static final int MODES = WHERES + SOURCES;
        private static final int ALL_LOCALS = (1 << LOCALS) - 1;
        private static final int ALL_FIELDS = (1 << WHERES) - 1 - ALL_LOCALS;
        // Locals do not come back, so in exits a local's bit is free to mean the returned value.
        private static final int RESULT = 1;

        private final Program program;
        private final Pointing pointing;
        // By spot * MODES + mode.
        private final int[] held;
        // By method * MODES + mode: what comes back to callers, fields and RESULT.
        private final int[] exits;
        // By method * MODES + mode: the labels for which the mode is one of the method's.
        private final int[] labels;
        // For each method, the set of places where ZERO holds; it only holds under ZERO.
        private final int[] zeroPlaces;
        private boolean grew;

        Flow(Program program, Pointing pointing) {
            this.program = program;
            this.pointing = pointing;
            held = new int[SPOTS * MODES];
            exits = new int[METHODS * MODES];
            labels = new int[METHODS * MODES];
            zeroPlaces = new int[METHODS];
        }

        void workOut() {
            clear();
            zeroPlaces[0] = 1;
            grew = true;
            for (int round = 0; grew && round < MOST_ROUNDS; round++) {
                grew = false;
                for (int method = 0; method < METHODS; method++) {
                    sweep(method);
                }
            }
        }

        private void clear() {
            Arrays.fill(held, 0);
            Arrays.fill(exits, 0);
            Arrays.fill(labels, 0);
            Arrays.fill(zeroPlaces, 0);
            for (int method = 0; method < METHODS; method++) {
                for (int s = 0; s < SOURCES; s++) {
                    labels[method * MODES + WHERES + s] = 1 << s;
                }
            }
        }

        private void sweep(int method) {
            int end = program.sizes[method];
            for (int place = 0; place < end; place++) {
                if (has(zeroPlaces[method], place)) {
                    passZero(method, place);
                }
                int spot = method * PLACES + place;
                for (int mode = 0; mode < MODES; mode++) {
                    int facts = held[spot * MODES + mode];
                    if (facts != 0) {
                        pass(method, spot, mode, facts);
                    }
                }
            }
            endAll(method, method * PLACES + end);
        }

        private void endAll(int method, int spot) {
            for (int mode = 0; mode < MODES; mode++) {
                growExit(method, mode, held[spot * MODES + mode] & ALL_FIELDS);
            }
        }

        private void passZero(int method, int place) {
            int spot = method * PLACES + place;
            int kind = program.kinds[spot];
            if (kind == RETURN) {
                return;
            }
            if (kind != GOTO) {
                growZero(method, place + 1);
            }
            if (kind == GOTO || kind == BRANCH) {
                growZero(method, program.jumpSpot(method, spot) - method * PLACES);
            }
            if (kind == SOURCE) {
                growHeld(spot + 1, WHERES + program.numbers[spot], 1 << program.as[spot]);
            }
            if (kind == CALL) {
                callZero(spot);
            }
        }

        private void callZero(int spot) {
            for (int target = 0; target < METHODS; target++) {
                if (has(pointing.targets[spot], target)) {
                    growZero(target, 0);
                    for (int mode = WHERES; mode < MODES; mode++) {
                        comeBack(spot, mode, exits[target * MODES + mode]);
                    }
                }
            }
        }

        private void pass(int method, int spot, int mode, int facts) {
            int kind = program.kinds[spot];
            if (kind == CALL) {
                call(method, spot, mode, facts);
                return;
            }
            if (kind == RETURN) {
                int result = has(facts, program.as[spot]) ? RESULT : 0;
                growExit(method, mode, (facts & ALL_FIELDS) | result);
                return;
            }
            int after = changed(method, spot, facts);
            if (kind != GOTO) {
                growHeld(spot + 1, mode, after);
            }
            if (kind == GOTO || kind == BRANCH) {
                growHeld(program.jumpSpot(method, spot), mode, after);
            }
        }

        /** What the statement, neither CALL nor RETURN, makes of the facts. */
        private int changed(int method, int spot, int facts) {
            int a = program.as[spot];
            int b = program.bs[spot];
            int c = program.cs[spot];
            int others = facts & ~(1 << a);
            switch (program.kinds[spot]) {
                case NEW:
                case SOURCE:
                case CLEAN:
                    return others;
                case COPY:
                    return has(facts, b) ? others | (1 << a) : others;
                case LOAD:
                    int origins = (1 << b) | fieldsOf(pointing.locals[method * LOCALS + b], c);
                    return (facts & origins) != 0 ? others | (1 << a) : others;
                case STORE:
                    int owners = pointing.locals[method * LOCALS + a];
                    return has(facts, b) ? facts | fieldsOf(owners, c) : facts;
                default:
                    return facts;
            }
        }

        private static int fieldsOf(int owners, int field) {
            int wheres = 0;
            for (int site = 0; site < SITES; site++) {
                if (has(owners, site)) {
                    wheres |= 1 << (LOCALS + site * FIELDS + field);
                }
            }
            return wheres;
        }

        private void call(int method, int spot, int mode, int facts) {
            growHeld(spot + 1, mode, facts & ALL_LOCALS & ~(1 << program.as[spot]));
            int given = facts & ALL_FIELDS;
            if (has(facts, program.bs[spot])) {
                given |= 1;
            }
            if (has(facts, program.cs[spot] % LOCALS)) {
                given |= 1 << 1;
            }
            for (int target = 0; target < METHODS; target++) {
                if (has(pointing.targets[spot], target)) {
                    enter(target, given, labels[method * MODES + mode]);
                    comeBack(spot, mode, exitsOfAll(target, given));
                }
            }
        }

        private void enter(int target, int given, int newLabels) {
            for (int where = 0; where < WHERES; where++) {
                int index = target * MODES + where;
                if (has(given, where) && (newLabels & ~labels[index]) != 0) {
                    labels[index] |= newLabels;
                    held[target * PLACES * MODES + where] |= 1 << where;
                    grew = true;
                }
            }
        }

        private int exitsOfAll(int target, int given) {
            int exit = 0;
            for (int where = 0; where < WHERES; where++) {
                if (has(given, where)) {
                    exit |= exits[target * MODES + where];
                }
            }
            return exit;
        }

        private void comeBack(int spot, int mode, int exit) {
            int result = (exit & RESULT) != 0 ? 1 << program.as[spot] : 0;
            growHeld(spot + 1, mode, (exit & ALL_FIELDS) | result);
        }

        private void growHeld(int spot, int mode, int facts) {
            int index = spot * MODES + mode;
            if ((facts & ~held[index]) != 0) {
                held[index] |= facts;
                grew = true;
            }
        }

        private void growExit(int method, int mode, int exit) {
            int index = method * MODES + mode;
            if ((exit & ~exits[index]) != 0) {
                exits[index] |= exit;
                grew = true;
            }
        }

        private void growZero(int method, int place) {
            if (!has(zeroPlaces[method], place)) {
                zeroPlaces[method] |= 1 << place;
                grew = true;
            }
        }

        int countPaths() {
            int paths = 0;
            for (int method = 0; method < METHODS; method++) {
                paths += Integer.bitCount(zeroPlaces[method]);
                for (int mode = 0; mode < MODES; mode++) {
                    int entryFacts = Integer.bitCount(labels[method * MODES + mode]);
                    if (entryFacts != 0) {
                        paths += entryFacts * countHeld(method, mode);
                    }
                }
            }
            return paths;
        }

        private int countHeld(int method, int mode) {
            int facts = 0;
            for (int place = 0; place <= program.sizes[method]; place++) {
                facts += Integer.bitCount(held[(method * PLACES + place) * MODES + mode]);
            }
            return facts;
        }

        int countEntries(int method) {
            // Where ZERO is an entry fact, it holds at place 0.
            int entryFacts = zeroPlaces[method] & 1;
            for (int where = 0; where < WHERES; where++) {
                entryFacts += Integer.bitCount(labels[method * MODES + where]);
            }
            return entryFacts;
        }

        boolean mayHold(int method, int spot, int where, int s) {
            for (int mode = 0; mode < MODES; mode++) {
                if (has(labels[method * MODES + mode], s) && has(held[spot * MODES + mode], where)) {
                    return true;
                }
            }
            return false;
        }
    }

    /**
     * Makes runs. A value is one int: its labels as a set in the lowest bits, above them 0 for
     * none or the object's number + 1; so 0 is none without labels.
     */
    private static final class Machine {
        private static final int MOST_STEPS = 200;
        private static final int MOST_OPEN = 6;
        private static final int MOST_OBJECTS = 12;
        private static final int CHOICES = 32;
        private static final int ALL_LABELS = (1 << SOURCES) - 1;

        private final Program program;
        // The methods that have begun and not ended, and the spot where each stands: for all
        // but the last one that of its CALL.
        private final int[] openMethods;
        private final int[] openSpots;
        private int open;
        // By index in the open methods * LOCALS + local.
        private final int[] locals;
        private final int[] objectClasses;
        // By object * FIELDS + field.
        private final int[] fields;
        private int choices;
        private int branches;
        private int steps;
        int objects;
        final int[] hitCounts;
        int ending;

        Machine(Program program) {
            this.program = program;
            openMethods = new int[MOST_OPEN];
            openSpots = new int[MOST_OPEN];
            locals = new int[MOST_OPEN * LOCALS];
            objectClasses = new int[MOST_OBJECTS];
            fields = new int[MOST_OBJECTS * FIELDS];
            hitCounts = new int[SOURCES * SINKS];
            ending = NO_RUN;
        }

        int start(int newChoices, int n) {
            int limit = Math.max(0, Math.min(n, MOST_STEPS));
            reset(newChoices);
            for (int i = 0; i <= MOST_STEPS && ending == NO_RUN; i++) {
                endMethods();
                ending = endingBeforeStep(limit);
                if (ending == NO_RUN) {
                    step();
                }
            }
            return steps;
        }

        private void reset(int newChoices) {
            Arrays.fill(hitCounts, 0);
            choices = newChoices;
            branches = 0;
            steps = 0;
            objects = 0;
            ending = NO_RUN;
            open = 0;
            begin(0, 0, 0);
        }

        private void begin(int method, int first, int second) {
            openMethods[open] = method;
            openSpots[open] = method * PLACES;
            locals[open * LOCALS] = first;
            locals[open * LOCALS + 1] = second;
            locals[open * LOCALS + 2] = 0;
            locals[open * LOCALS + 3] = 0;
            open++;
        }

        private void endMethods() {
            for (int i = 0; i < MOST_OPEN && open > 0 && standsAtEnd(); i++) {
                endMethod(0);
            }
        }

        private boolean standsAtEnd() {
            int method = openMethods[open - 1];
            return openSpots[open - 1] == method * PLACES + program.sizes[method];
        }

        private void endMethod(int result) {
            open--;
            if (open > 0) {
                int a = program.as[openSpots[open - 1]];
                locals[(open - 1) * LOCALS + a] = result;
                openSpots[open - 1]++;
            }
        }

        private int endingBeforeStep(int limit) {
            if (open == 0) {
                return ENDED;
            }
            if (steps >= limit) {
                return STEPS;
            }
            int spot = openSpots[open - 1];
            switch (program.kinds[spot]) {
                case NEW:
                    return objects == MOST_OBJECTS ? FULL : NO_RUN;
                case LOAD:
                    return objectOf(program.bs[spot]) == NONE ? STUCK : NO_RUN;
                case STORE:
                    return objectOf(program.as[spot]) == NONE ? STUCK : NO_RUN;
                case CALL:
                    if (calledMethod(spot) == NONE) {
                        return STUCK;
                    }
                    return open == MOST_OPEN ? DEEP : NO_RUN;
                default:
                    return NO_RUN;
            }
        }

        private int objectOf(int local) {
            return (locals[(open - 1) * LOCALS + local] >> SOURCES) - 1;
        }

        private int calledMethod(int spot) {
            int object = objectOf(program.bs[spot]);
            if (object == NONE) {
                return NONE;
            }
            return program.targetOf(objectClasses[object], program.cs[spot] / LOCALS);
        }

        private void step() {
            steps++;
            int method = openMethods[open - 1];
            int spot = openSpots[open - 1];
            int base = (open - 1) * LOCALS;
            int a = program.as[spot];
            switch (program.kinds[spot]) {
                case CALL:
                    // It stands at the CALL until the method that begins here ends.
                    begin(calledMethod(spot), locals[base + program.bs[spot]],
                            locals[base + program.cs[spot] % LOCALS]);
                    break;
                case BRANCH:
                    boolean jumps = has(choices, branches % CHOICES);
                    branches++;
                    openSpots[open - 1] = jumps ? program.jumpSpot(method, spot) : spot + 1;
                    break;
                case GOTO:
                    openSpots[open - 1] = program.jumpSpot(method, spot);
                    break;
                case RETURN:
                    endMethod(locals[base + a]);
                    break;
                default:
                    changeValues(spot, base, a);
                    openSpots[open - 1] = spot + 1;
                    break;
            }
        }

        private void changeValues(int spot, int base, int a) {
            int b = program.bs[spot];
            int c = program.cs[spot];
            switch (program.kinds[spot]) {
                case NEW:
                    locals[base + a] = makeObject(b);
                    break;
                case SOURCE:
                    locals[base + a] = 1 << program.numbers[spot];
                    break;
                case SINK:
                    countHits(program.numbers[spot], locals[base + a]);
                    break;
                case CLEAN:
                    locals[base + a] &= ~ALL_LABELS;
                    break;
                case COPY:
                    locals[base + a] = locals[base + b];
                    break;
                case LOAD:
                    locals[base + a] = fields[objectOf(b) * FIELDS + c]
                            | (locals[base + b] & ALL_LABELS);
                    break;
                case STORE:
                    fields[objectOf(a) * FIELDS + c] = locals[base + b];
                    break;
                default:
                    break;
            }
        }

        private int makeObject(int c) {
            objectClasses[objects] = c;
            fields[objects * FIELDS] = 0;
            fields[objects * FIELDS + 1] = 0;
            objects++;
            // A value holds an object's number + 1, which the count now is.
            return objects << SOURCES;
        }

        private void countHits(int sink, int value) {
            for (int s = 0; s < SOURCES; s++) {
                if (has(value, s)) {
                    hitCounts[s * SINKS + sink]++;
                }
            }
        }
    }
}

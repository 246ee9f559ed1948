/** The boundary cases of what is worked out: where sets and facts end, and what is answered about them. */
public final class WorkedOutBoundaries extends Checks {
    private static void reachedMethods() {
        sentence("method 0 is reached;");
        LabelledFlows alone = withMain(NEW, 3, 0, 0);
        alone.analyse(HIGHEST);
        due("method 0", alone.points(0, 3), 1);
        for (int m = 1; m <= 5; m++) {
            LabelledFlows x = withMain(NEW, 0, 0, 0);
            with(x, m, NEW, 2, 0, 0);
            x.bind(0, 0, m);
            x.analyse(HIGHEST);
            due("not reached: method " + m, x.points(m, 2), 0);
            due("no entry fact", x.entries(m), 0);
            with(x, 0, CALL, 1, 0, 0);
            x.analyse(HIGHEST);
            due("reached: method " + m, x.points(m, 2), 2);
            due("one entry fact", x.entries(m), 1);
        }
        LabelledFlows far = withMain(NEW, 0, 0, 0);
        with(far, 2, NEW, 0, 0, 0, CALL, 1, 0, 0);
        with(far, 3, NEW, 2, 0, 0);
        far.bind(0, 0, 3);
        far.analyse(HIGHEST);
        due("a call in a method that is not reached", far.points(3, 2), 0);
        due("nor do its objects come there", far.points(3, 0), 0);
    }

    private static void callsPoint() {
        sentence("for each o of P(m, b) whose class has a target t for the message: t is reached, o is in P(t, 0), "
                + "P(t, 1) has all of P(m, c % 4), and P(m, a) has all of P(t, r) for each RETURN r of t.");
        LabelledFlows none = withCalled(rows(CALL, 1, 0, 0), NEW, 2, 0, 0);
        none.analyse(HIGHEST);
        due("no object there", none.points(1, 2), 0);
        LabelledFlows two = withCalled(rows(NEW, 0, 0, 0, NEW, 0, 1, 0, NEW, 2, 2, 0, CALL, 1, 0, 2), NEW, 2, 3, 0);
        two.analyse(HIGHEST);
        due("the one that has a target", two.points(1, 0), 1);
        due("the argument", two.points(1, 1), 4);
        due("no RETURN, nothing comes back", two.points(0, 1), 0);
        two.bind(1, 0, 1);
        two.analyse(HIGHEST);
        due("both have it", two.points(1, 0), 3);
        two.bind(0, 0, NONE);
        two.analyse(HIGHEST);
        due("the other one alone", two.points(1, 0), 2);
        two.bind(1, 0, NONE);
        two.analyse(HIGHEST);
        due("none has it", two.points(1, 0), 0);
        due("so nothing is reached", two.points(1, 2), 0);
        LabelledFlows first = withCalled(rows(NEW, 0, 0, 0, CALL, 1, 0, 0), RETURN, 0, 0, 0);
        first.analyse(HIGHEST);
        due("a RETURN at place 0", first.points(0, 1), 1);
        for (int r = 0; r <= 3; r++) {
            LabelledFlows x = withCalled(rows(NEW, 0, 0, 0, NEW, 1, 0, 0, CALL, 3, 0, 1),
                    NEW, 2, 0, 0, NEW, 3, 0, 0, RETURN, r, 0, 0);
            x.analyse(HIGHEST);
            due("RETURN " + r, x.points(0, 3), 1 << r);
            with(x, 1, RETURN, 3 - r, 0, 0);
            x.analyse(HIGHEST);
            due("RETURN " + (3 - r) + " behind it, where no run comes", x.points(0, 3), 1 << r | 1 << 3 - r);
        }
    }

    private static void setsOfStatements() {
        sentence("NEW a: its site is in P(m, a). COPY a b: P(m, a) has all of P(m, b). "
                + "LOAD a b c: P(m, a) has all of Q(o, c)\nfor each o of P(m, b). "
                + "STORE a b c: Q(o, c) has all of P(m, b) for each o of P(m, a).");
        LabelledFlows early = withMain(RETURN, 0, 0, 0, COPY, 1, 0, 0, COPY, 0, 0, 0, NEW, 0, 0, 0,
                CLEAN, 0, 0, 0, SOURCE, 0, 0, 0);
        early.analyse(HIGHEST);
        due("also where no run comes, and before the NEW", early.points(0, 1), 1);
        due("nothing takes a site away", early.points(0, 0), 1);
        LabelledFlows none = withMain(NEW, 0, 0, 0, STORE, 1, 0, 0, LOAD, 2, 1, 0, COPY, 3, 1, 0);
        none.analyse(HIGHEST);
        due("STORE to no object", none.cell(0, 0), 0);
        due("LOAD of no object", none.points(0, 2), 0);
        due("COPY of no object", none.points(0, 3), 0);
        for (int f = 0; f <= 1; f++) {
            LabelledFlows two = withMain(NEW, 0, 0, 0, NEW, 0, 0, 0, NEW, 1, 0, 0, STORE, 0, 1, f,
                    LOAD, 2, 0, f, LOAD, 3, 0, 1 - f);
            two.analyse(HIGHEST);
            due("the first owner", two.cell(0, f), 4);
            due("the second owner", two.cell(1, f), 4);
            due("no owner", two.cell(2, f), 0);
            due("the other field", two.cell(0, 1 - f), 0);
            due("LOAD of the field", two.points(0, 2), 4);
            due("LOAD of the other field", two.points(0, 3), 0);
            LabelledFlows other = withMain(NEW, 0, 0, 0, NEW, 1, 0, 0, STORE, 0, 0, f, LOAD, 2, 1, f);
            other.analyse(HIGHEST);
            due("LOAD of another object", other.points(0, 2), 0);
            LabelledFlows all = withMain(NEW, 0, 0, 0, NEW, 1, 0, 0, STORE, 0, 0, f, STORE, 1, 1, f,
                    BRANCH, 6, 0, 0, COPY, 0, 1, 0, LOAD, 2, 0, f);
            all.analyse(HIGHEST);
            due("LOAD of two owners", all.points(0, 2), 3);
        }
    }

    private static void setsInEachMethod() {
        sentence("Sets of sites P(m, x) for local x of method m and Q(o, f) for field f of site o,");
        for (int m = 1; m <= 5; m++) {
            int other = m == 5 ? 1 : 5;
            LabelledFlows x = withMain(NEW, 0, 0, 0, NEW, 1, 1, 0, CALL, 2, 0, 1);
            with(x, m, NEW, 2, 2, 0, STORE, 0, 1, 1, COPY, 3, 2, 0, LOAD, 2, 0, 1, CALL, 3, 1, 6);
            with(x, other, RETURN, 1, 0, 0);
            x.bind(0, 0, m);
            x.bind(1, 1, other);
            x.analyse(HIGHEST);
            // The NEW of method m is number 2, as the other method has none.
            int[] sets = {1, 2, 6, 6};
            for (int local = 0; local <= 3; local++) {
                due("local " + local + " of method " + m, x.points(m, local), sets[local]);
            }
            due("the receiver in method " + other, x.points(other, 0), 2);
            due("the argument in method " + other, x.points(other, 1), 6);
            due("what was stored", x.cell(0, 1), 2);
            due("nothing comes back to method 0", x.points(0, 2), 0);
        }
        for (int site = 0; site <= 5; site++) {
            for (int f = 0; f <= 1; f++) {
                LabelledFlows x = with(withSites(site), 0, CALL, 2, 1, 0, STORE, 1, 0, f, LOAD, 3, 1, f);
                x.bind(0, 0, 5);
                x.analyse(HIGHEST);
                due("site " + site + " as receiver", x.points(5, 0), 1 << site);
                due("a LOAD from site " + site, x.points(0, 3), 63 - (1 << site));
            }
        }
        for (int f = 0; f <= 1; f++) {
            LabelledFlows x = withCalled(rows(NEW, 0, 0, 0, NEW, 1, 0, 0, NEW, 2, 0, 0, NEW, 3, 0, 0, STORE, 0, 2, f,
                    STORE, 1, 3, f, CALL, 2, 0, 0, CALL, 2, 1, 0), LOAD, 2, 0, f);
            x.analyse(HIGHEST);
            due("a LOAD from two sites of different contents", x.points(1, 2), 12);
            due("the first one's", x.cell(0, f), 4);
            due("the second one's", x.cell(1, f), 8);
            with(x, 0, STORE, 0, 3, f);
            x.analyse(HIGHEST);
            due("two STOREs to one site", x.cell(0, f), 12);
        }
        LabelledFlows store = withCalled(rows(NEW, 0, 0, 0, NEW, 1, 0, 0, STORE, 0, 1, 0, LOAD, 2, 0, 1),
                NEW, 2, 0, 0);
        store.analyse(HIGHEST);
        due("a STORE calls nothing", store.points(1, 0), 0);
    }

    private static void setsThatSettleLate() {
        sentence("and the set of REACHED methods are the least ones for which:");
        LabelledFlows x = withMain(LOAD, 3, 2, 0, STORE, 2, 1, 0, COPY, 1, 0, 0, COPY, 2, 0, 0, NEW, 0, 0, 0);
        x.analyse(HIGHEST);
        due("each statement waits for the next one", x.points(0, 3), 1);
        LabelledFlows copies = withMain(CALL, 3, 1, 0, COPY, 1, 2, 0, COPY, 2, 3, 0, COPY, 3, 0, 0, NEW, 0, 0, 0);
        with(copies, 5, CALL, 2, 0, 5);
        with(copies, 4, CALL, 2, 0, 9);
        with(copies, 3, NEW, 2, 1, 0, RETURN, 2, 0, 0);
        copies.bind(0, 0, 5);
        copies.bind(0, 1, 4);
        copies.bind(0, 2, 3);
        copies.analyse(HIGHEST);
        due("methods are reached one by another", copies.points(3, 2), 2);
        due("and what returns comes back", copies.points(4, 2), 2);
        due("but no farther", copies.points(5, 2), 0);
        due("nothing more than that", copies.points(0, 1), 1);
    }

    private static void asItIs() {
        sentence("Works out the program as it is.");
        LabelledFlows x = withCalled(rows(NEW, 0, 0, 0, SOURCE, 1, 0, 0, STORE, 0, 1, 0, CALL, 2, 0, 1,
                SINK, 2, 0, 0),
                LOAD, 2, 0, 0, RETURN, 2, 0, 0);
        x.analyse(HIGHEST);
        due("finding", x.finding(0, 0), true);
        x.bind(0, 0, NONE);
        LabelledFlows cut = withMain(NEW, 0, 0, 0, SOURCE, 1, 0, 0, STORE, 0, 1, 0, CALL, 2, 0, 1, SINK, 2, 0, 0);
        with(cut, 1, LOAD, 2, 0, 0, RETURN, 2, 0, 0);
        due("nothing bound any more", x.analyse(HIGHEST), cut.analyse(HIGHEST));
        dueSame("as in a new object", answers(x), answers(cut));
        x.drop(0);
        x.drop(0);
        LabelledFlows small = withMain(NEW, 0, 0, 0, SOURCE, 1, 0, 0, STORE, 0, 1, 0);
        with(small, 1, LOAD, 2, 0, 0, RETURN, 2, 0, 0);
        due("no CALL any more", x.analyse(HIGHEST), small.analyse(HIGHEST));
        dueSame("as in a new object", answers(x), answers(small));
        for (int i = 0; i < 3; i++) {
            x.drop(0);
        }
        due("nothing is left in method 0", x.analyse(HIGHEST), 1);
        due("twice", x.analyse(HIGHEST), 1);
    }

    private static void zeroIsAnEntryFact() {
        sentence("ZERO is an entry fact of method 0.");
        LabelledFlows empty = new LabelledFlows();
        empty.analyse(HIGHEST);
        for (int m = 0; m <= 5; m++) {
            due("entries of " + m, empty.entries(m), m == 0 ? 1 : 0);
        }
        LabelledFlows again = withMain(NEW, 0, 0, 0, SOURCE, 2, 0, 0, CALL, 3, 0, 2);
        again.bind(0, 0, 0);
        due("method 0 called by itself", again.analyse(99), 4 + 2 + 4);
        due("ZERO once, and the argument's", again.entries(0), 2);
    }

    private static void factsThatSettleLate() {
        sentence("Which facts are ENTRY FACTS of a method, and which facts HOLD at a place of a method UNDER one of "
                + "its entry facts, is the least choice for which:");
        int[] back = {GOTO, 11, 0, 0, SINK, 1, 0, 0, GOTO, 1, 0, 0, GOTO, 2, 0, 0, GOTO, 3, 0, 0, GOTO, 4, 0, 0,
                GOTO, 5, 0, 0, GOTO, 6, 0, 0, GOTO, 7, 0, 0, GOTO, 8, 0, 0, GOTO, 9, 0, 0, GOTO, 10, 0, 0};
        due("ZERO goes back place by place", withMain(back).analyse(99), 12);
        // By jumps back the label comes to the CALL when ZERO has long gone on.
        LabelledFlows label = withCalled(rows(NEW, 0, 0, 0, CALL, 2, 0, 1, GOTO, 5, 0, 0, GOTO, 1, 0, 0,
                GOTO, 3, 0, 0, SOURCE, 1, 0, 0, GOTO, 4, 0, 0), back);
        due("a label goes back place by place", label.analyse(99), 7 + 6 + 12 + 12);
        due("to the SINK", label.finding(0, 0), true);
        LabelledFlows falling = withMain(NEW, 0, 0, 0, CALL, 1, 0, 1, GOTO, 5, 0, 0, GOTO, 1, 0, 0,
                GOTO, 3, 0, 0, SOURCE, 1, 0, 0, GOTO, 4, 0, 0);
        with(falling, 5, CALL, 1, 0, 5);
        with(falling, 4, CALL, 1, 0, 9);
        with(falling, 3, CLEAN, 3, 0, 0);
        falling.bind(0, 0, 5);
        falling.bind(0, 1, 4);
        falling.bind(0, 2, 3);
        due("a label comes to methods of lower numbers", falling.analyse(99), 7 + 4 + 2 + 1 + 2 + 1 + 2 + 2);
        LabelledFlows returned = withCalled(rows(NEW, 0, 0, 0, SOURCE, 1, 0, 0, CALL, 2, 0, 1, SINK, 2, 0, 0),
                GOTO, 3, 0, 0, RETURN, 1, 0, 0, GOTO, 1, 0, 0, GOTO, 2, 0, 0);
        returned.analyse(HIGHEST);
        due("a RETURN behind jumps back", returned.finding(0, 0), true);
        for (int m = 1; m <= 5; m++) {
            for (int k = 1; k <= 5; k++) {
                if (m != k) {
                    dueFourLabels(m, k);
                }
            }
        }
    }

    /** Four labels come through method m to method k. */
    private static void dueFourLabels(int m, int k) {
        LabelledFlows x = withMain(NEW, 0, 0, 0, SOURCE, 1, 0, 0, CALL, 2, 0, 1, SOURCE, 1, 0, 0, CALL, 2, 0, 1,
                SOURCE, 1, 0, 0, CALL, 2, 0, 1, SOURCE, 1, 0, 0, CALL, 2, 0, 1);
        with(x, m, CALL, 2, 0, 5);
        x.bind(0, 0, m);
        x.bind(0, 1, k);
        due("paths of four labels", x.analyse(99), 10 + 8 + 2 + 8 + 1 + 4);
        due("entries of method " + m, x.entries(m), 5);
        due("entries of method " + k, x.entries(k), 5);
        for (int s = 0; s <= 3; s++) {
            due("label " + s + " in method " + k, x.may(k, 0, 1, s), true);
        }
    }

    private static void entryFactsHold() {
        sentence("An entry fact e holds at place 0 under e.");
        LabelledFlows empty = withCalled(rows(NEW, 0, 0, 0, SOURCE, 1, 0, 0, CALL, 2, 0, 1));
        due("an empty method: its END is place 0", empty.analyse(99), 4 + 2 + 1 + 1);
        due("holds at place 0", empty.may(1, 0, 1, 0), true);
        due("and at no place more", empty.may(1, 1, 1, 0), false);
        LabelledFlows cleaned = withCalled(rows(NEW, 0, 0, 0, SOURCE, 1, 0, 0, CALL, 2, 0, 1), CLEAN, 1, 0, 0);
        due("a method with a statement", cleaned.analyse(99), 4 + 2 + 2 + 1);
        due("holds at place 0", cleaned.may(1, 0, 1, 0), true);
        due("not behind the CLEAN", cleaned.may(1, 1, 1, 0), false);
    }

    private static void nothingFollowsTheEnd() {
        sentence("and a statement is at k (at the END nothing follows of it), then");
        LabelledFlows dropped = withMain(SOURCE, 0, 0, 0, SINK, 0, 0, 0);
        due("as it is", dropped.analyse(99), 5);
        dropped.drop(0);
        due("the dropped SINK's place is the END", dropped.analyse(99), 3);
        dropped.drop(0);
        due("the dropped SOURCE's place is the END", dropped.analyse(99), 1);
        LabelledFlows full = new LabelledFlows();
        for (int i = 0; i < 11; i++) {
            with(full, 0, CLEAN, 1, 0, 0);
        }
        with(full, 0, SOURCE, 0, 0, 0);
        with(full, 1, SINK, 0, 0, 0);
        due("a full method", full.analyse(99), 13 + 1);
        due("does not go on in the next method", full.finding(0, 0), false);
        due("which has no entry fact", full.entries(1), 0);
    }

    private static void zeroGoesOn() {
        sentence("ZERO holds under e at each place where it may go on if d is ZERO and the statement is no RETURN "
                + "(for a CALL: at the next place);");
        for (int kind = NEW; kind <= CALL; kind++) {
            due("kind " + kind, withMain(kind, 0, 0, 0).analyse(99), kind == SOURCE ? 3 : 2);
        }
        due("BRANCH to itself", withMain(BRANCH, 0, 0, 0).analyse(99), 2);
        due("BRANCH over a statement", withMain(BRANCH, 2, 0, 0, CLEAN, 0, 0, 0).analyse(99), 3);
        due("GOTO to itself", withMain(GOTO, 0, 0, 0).analyse(99), 1);
        due("GOTO the next", withMain(GOTO, 1, 0, 0).analyse(99), 2);
        due("GOTO over a statement", withMain(GOTO, 2, 0, 0, CLEAN, 0, 0, 0).analyse(99), 2);
        due("RETURN", withMain(RETURN, 0, 0, 0).analyse(99), 1);
        due("a CALL without a target", withMain(NEW, 0, 0, 0, CALL, 1, 0, 0).analyse(99), 3);
        LabelledFlows endless = withCalled(rows(NEW, 0, 0, 0, CALL, 1, 0, 0, SINK, 0, 0, 0), GOTO, 0, 0, 0);
        due("a CALL of a method that never ends", endless.analyse(99), 4 + 1);
    }

    private static void sourcesWhereZeroComes() {
        sentence("for SOURCE a, of number s, then (s, a) holds there too;");
        for (int a = 0; a <= 3; a++) {
            LabelledFlows x = withMain(SOURCE, a, 0, 0);
            due("SOURCE", x.analyse(99), 3);
            for (int local = 0; local <= 3; local++) {
                due("behind it, local " + local, x.may(0, 1, local, 0), local == a);
                due("at it, local " + local, x.may(0, 0, local, 0), false);
            }
            LabelledFlows cut = withMain(RETURN, 0, 0, 0, SOURCE, a, 0, 0);
            due("where ZERO does not come", cut.analyse(99), 1);
            due("nothing holds", cut.may(0, 2, a, 0), false);
        }
        // Under the entry fact (0, 1) there is no ZERO, so method 1's SOURCE gives nothing there.
        LabelledFlows inside = withCalled(rows(NEW, 0, 0, 0, SOURCE, 1, 0, 0, CALL, 2, 0, 1),
                SOURCE, 3, 0, 0, RETURN, 3, 0, 0);
        due("under another entry fact", inside.analyse(99), 4 + 2 + 1 + 2 + 1 + 2);
    }

    private static void nothingPassesReturn() {
        sentence("for all statements but CALL and RETURN, if d is (s, x):");
        LabelledFlows x = withMain(SOURCE, 0, 0, 0, RETURN, 0, 0, 0, SINK, 0, 0, 0);
        due("a local's fact at a RETURN", x.analyse(99), 3);
        due("does not pass it", x.may(0, 2, 0, 0), false);
        LabelledFlows field = withMain(NEW, 0, 0, 0, SOURCE, 1, 0, 0, STORE, 0, 1, 0, RETURN, 0, 0, 0, LOAD, 2, 0, 0);
        due("a field's fact at a RETURN", field.analyse(99), 4 + 2 + 1);
        due("does not pass it", field.may(0, 4, 4, 0), false);
    }

    private static void localsKept() {
        sentence("(s, x) holds under e at each place where it may go on, unless the kind is 0, 1, 3, 4 or 5 and "
                + "x is a;");
        for (int kind = NEW; kind <= GOTO; kind++) {
            for (int x = 0; x <= 3 && kind != CALL; x++) {
                for (int y = 0; y <= 3; y++) {
                    boolean jumps = kind == BRANCH || kind == GOTO;
                    int a = jumps ? 2 : y;
                    LabelledFlows p = withMain(SOURCE, x, 0, 0, kind, a, (y + 1) % 4, 0);
                    p.analyse(HIGHEST);
                    boolean cuts = kind <= SOURCE || kind >= CLEAN && kind <= LOAD;
                    due("kind " + kind + " a " + a + ", label in local " + x, p.may(0, 2, x, 0), !(cuts && x == a));
                    due("before it", p.may(0, 1, x, 0), true);
                }
            }
        }
    }

    private static void copiesToItself() {
        sentence("for COPY a b with x = b and for LOAD a b c with x = b, (s, a) holds there (also if a is b);");
        for (int kind = COPY; kind <= LOAD; kind++) {
            for (int i = 0; i < 64; i++) {
                int a = i / 16;
                int b = i / 4 % 4;
                int x = i % 4;
                LabelledFlows p = withMain(SOURCE, x, 0, 0, kind, a, b, 1);
                p.analyse(HIGHEST);
                String what = "kind " + kind + " " + a + " " + b + ", label in " + x;
                for (int local = 0; local <= 3; local++) {
                    boolean holds = local == a ? x == b : local == x;
                    due(what + ", then in " + local, p.may(0, 2, local, 0), holds);
                }
            }
        }
    }

    private static void storesToAll() {
        sentence("for STORE a b c with x = b, (s, o, c) holds there for each o of P(m, a);");
        for (int f = 0; f <= 1; f++) {
            LabelledFlows none = withMain(SOURCE, 1, 0, 0, STORE, 0, 1, f);
            due("no object there", none.analyse(99), 3 + 2);
            LabelledFlows one = withMain(NEW, 0, 0, 0, SOURCE, 1, 0, 0, STORE, 0, 1, f);
            due("one object", one.analyse(99), 4 + 2 + 1);
            due("its field", one.may(0, 3, 4 + f, 0), true);
            due("not the other field", one.may(0, 3, 5 - f, 0), false);
            due("not before", one.may(0, 2, 4 + f, 0), false);
            LabelledFlows two = withMain(NEW, 0, 0, 0, NEW, 0, 0, 0, NEW, 2, 0, 0, SOURCE, 1, 0, 0, STORE, 0, 1, f);
            due("two objects", two.analyse(99), 6 + 2 + 2);
            due("the first one's field", two.may(0, 5, 4 + f, 0), true);
            due("the second one's field", two.may(0, 5, 6 + f, 0), true);
            due("not a third one's", two.may(0, 5, 8 + f, 0), false);
            LabelledFlows other = withMain(NEW, 0, 0, 0, SOURCE, 1, 0, 0, STORE, 0, 2, f);
            due("another local is stored", other.analyse(99), 4 + 2);
            LabelledFlows owner = withMain(NEW, 0, 0, 0, SOURCE, 0, 0, 0, STORE, 0, 0, f);
            due("also if a is b", owner.analyse(99), 4 + 2 + 1);
        }
        LabelledFlows six = withMain(NEW, 0, 0, 0, NEW, 0, 0, 0, NEW, 0, 0, 0, NEW, 0, 0, 0, NEW, 0, 0, 0,
                NEW, 0, 0, 0, SOURCE, 1, 0, 0, STORE, 0, 1, 1);
        due("six objects", six.analyse(99), 9 + 2 + 6);
        for (int where = 4; where <= 15; where++) {
            due("where " + where, six.may(0, 8, where, 0), where % 2 == 1);
        }
    }

    private static void fieldsLoaded() {
        sentence("it holds under e at each place where it may go on; for LOAD a b c with f = c and o in P(m, b), "
                + "(s, a) holds there too;");
        for (int i = 0; i < 8; i++) {
            int stored = i % 2;
            int loaded = i / 2 % 2;
            int from = i / 4;
            LabelledFlows x = withMain(NEW, 0, 0, 0, NEW, 1, 0, 0, SOURCE, 2, 0, 0, STORE, 0, 2, stored,
                    LOAD, 3, from, loaded);
            boolean comes = stored == loaded && from == 0;
            due("field " + stored + " of local 0, LOAD of " + loaded + " of local " + from, x.analyse(99),
                    6 + 3 + 2 + (comes ? 1 : 0));
            due("the loaded local", x.may(0, 5, 3, 0), comes);
            due("the field still", x.may(0, 5, 4 + stored, 0), true);
        }
        for (int kind = NEW; kind <= GOTO; kind++) {
            if (kind != CALL) {
                int a = kind == BRANCH || kind == GOTO ? 4 : 0;
                LabelledFlows x = withMain(NEW, 0, 0, 0, SOURCE, 1, 0, 0, STORE, 0, 1, 1, kind, a, 2, 1);
                x.analyse(HIGHEST);
                due("kind " + kind + " leaves a field's fact", x.may(0, 4, 5, 0), true);
            }
        }
    }

    /** Each field of each site, and each label, goes into a method and comes back. */
    private static void fieldsPassCalls() {
        sentence("FACTS are ZERO, (s, x) for a label s and a local x, and (s, o, f) for a label s, a site o and "
                + "a field f.");
        for (int i = 0; i < 12; i++) {
            LabelledFlows x = with(withSites(i / 2), 0, SOURCE, 2, 0, 0, STORE, 1, 2, i % 2, CALL, 3, 1, 0);
            x.bind(0, 0, 1);
            String what = "field " + i % 2 + " of site " + i / 2;
            due(what, x.analyse(99), 10 + 3 + 2 + 1 + 1);
            due(what + " goes in", x.entries(1), 2);
            due(what + " goes in", x.may(1, 0, 4 + i, 0), true);
            due(what + " comes back", x.may(0, 9, 4 + i, 0), true);
            // By a RETURN, and with other facts of the label besides.
            with(x, 1, RETURN, 2, 0, 0);
            with(x, 0, COPY, 1, 2, 0, CALL, 3, 1, 1);
            x.analyse(HIGHEST);
            due(what + " goes in besides", x.entries(1), 4);
            due(what + " comes back besides", x.may(0, 11, 4 + i, 0), true);
        }
        for (int i = 0; i < 12; i++) {
            // Method 1 loses the field's fact by a CALL without a target, and then gives method 2 ZERO alone.
            LabelledFlows x = with(withSites(i / 2), 0, SOURCE, 2, 0, 0, STORE, 1, 2, i % 2, CALL, 3, 1, 4,
                    CALL, 3, 1, 0);
            with(x, 1, CALL, 3, 2, 0, CALL, 3, 0, 4);
            x.bind(0, 0, 1);
            x.bind(0, 1, 2);
            due("where " + (4 + i) + ", lost on the way", x.analyse(99), 11 + 4 + 2 + 3 + 1 + 1 + 1);
            due("does not come back from another call", x.may(1, 2, 4 + i, 0), false);
        }
        for (int s = 0; s <= 3; s++) {
            LabelledFlows end = withCalled(rows(NEW, 0, 0, 0, CALL, 1, 0, 0));
            LabelledFlows returned = withCalled(rows(NEW, 0, 0, 0, CALL, 1, 0, 0));
            for (int i = 0; i <= s; i++) {
                with(end, 1, SOURCE, 2, 0, 0);
                with(returned, 1, SOURCE, 2, 0, 0);
            }
            with(end, 1, STORE, 0, 2, 1);
            with(returned, 1, RETURN, 2, 0, 0);
            end.analyse(HIGHEST);
            returned.analyse(HIGHEST);
            for (int label = 0; label <= 3; label++) {
                due("label " + label + " of " + s + ", in a field from the END", end.may(0, 2, 5, label), label == s);
                due("label " + label + " of " + s + ", by RETURN", returned.may(0, 2, 1, label), label == s);
            }
        }
    }

    private static void localsPassCalls() {
        sentence("for CALL a b c: if d is (s, x) and x is not a, d holds under e at the next place.");
        for (int i = 0; i < 16; i++) {
            int x = i / 4;
            int a = i % 4;
            LabelledFlows lost = withMain(SOURCE, x, 0, 0, CALL, a, 0, 0);
            lost.analyse(HIGHEST);
            due("label in " + x + ", a CALL to " + a + " without a target", lost.may(0, 2, x, 0), x != a);
            LabelledFlows bound = withCalled(rows(NEW, 0, 0, 0, SOURCE, x, 0, 0, CALL, a, 0, 0), CLEAN, 0, 0, 0);
            bound.analyse(HIGHEST);
            due("label in " + x + ", a CALL to " + a, bound.may(0, 3, x, 0), x != a);
        }
        LabelledFlows field = withMain(NEW, 0, 0, 0, SOURCE, 1, 0, 0, STORE, 0, 1, 0, CALL, 2, 0, 0);
        field.analyse(HIGHEST);
        due("a field's fact before a CALL without a target", field.may(0, 3, 4, 0), true);
        due("does not pass it", field.may(0, 4, 4, 0), false);
        field.bind(0, 0, 1);
        field.analyse(HIGHEST);
        due("but comes back from a target", field.may(0, 4, 4, 0), true);
    }

    private static void factsOfEachTarget() {
        sentence("And for each target t the facts that d gives are entry facts of t:");
        LabelledFlows x = withMain(NEW, 0, 0, 0, NEW, 0, 1, 0, NEW, 3, 2, 0, SOURCE, 1, 0, 0, CALL, 2, 0, 1);
        x.bind(0, 0, 1);
        x.bind(1, 0, 5);
        x.bind(2, 0, 3);
        x.analyse(HIGHEST);
        due("the first object's", x.entries(1), 2);
        due("the second object's", x.entries(5), 2);
        due("none of the third, which is not in local b", x.entries(3), 0);
        x.bind(1, 0, 1);
        x.analyse(HIGHEST);
        due("both have one target", x.entries(1), 2);
        due("so the other is none", x.entries(5), 0);
    }

    private static void givenFacts() {
        sentence("ZERO gives ZERO; (s, x) gives (s, 0) if x = b, and (s, 1) if x = c % 4; (s, o, f) gives itself.");
        for (int i = 0; i < 64; i++) {
            int x = i / 16;
            int b = i / 4 % 4;
            int argument = i % 4;
            LabelledFlows p = withCalled(rows(NEW, b, 0, 0, SOURCE, x, 0, 0, CALL, 3, b, argument), CLEAN, 3, 0, 0);
            p.analyse(HIGHEST);
            String what = "label in " + x + ", CALL of " + b + " with " + argument;
            due(what + ": entries", p.entries(1), 1 + (x == b ? 1 : 0) + (x == argument ? 1 : 0));
            due(what + ": receiver", p.may(1, 0, 0, 0), x == b);
            due(what + ": argument", p.may(1, 0, 1, 0), x == argument);
            due(what + ": local 2", p.may(1, 0, 2, 0), false);
            due(what + ": local 3", p.may(1, 0, 3, 0), false);
        }
        for (int f = 0; f <= 1; f++) {
            LabelledFlows p = withCalled(rows(NEW, 0, 0, 0, SOURCE, 1, 0, 0, STORE, 0, 1, f, CALL, 3, 0, 2),
                    CLEAN, 3, 0, 0);
            p.analyse(HIGHEST);
            due("entries", p.entries(1), 2);
            due("the field", p.may(1, 0, 4 + f, 0), true);
            due("not the other", p.may(1, 0, 5 - f, 0), false);
        }
    }

    private static void returnedFacts() {
        sentence("each d' that holds under e' in t at a RETURN r: if d' is\n"
                + "    (s, r), (s, a) holds under e at the next place; and if d' is (s, o, f), it holds there;");
        for (int i = 0; i < 64; i++) {
            int a = i / 16;
            int r = i / 4 % 4;
            int q = i % 4;
            LabelledFlows p = withCalled(rows(NEW, 0, 0, 0, CALL, a, 0, 0), SOURCE, q, 0, 0, RETURN, r, 0, 0);
            p.analyse(HIGHEST);
            for (int local = 0; local <= 3; local++) {
                due("label in " + q + ", RETURN " + r + " to " + a + ": local " + local, p.may(0, 2, local, 0),
                        local == a && q == r);
            }
        }
        LabelledFlows field = withCalled(rows(NEW, 0, 0, 0, CALL, 3, 0, 0),
                SOURCE, 1, 0, 0, STORE, 0, 1, 1, RETURN, 2, 0, 0);
        field.analyse(HIGHEST);
        due("a field's fact at a RETURN", field.may(0, 2, 5, 0), true);
        due("gives local a nothing", field.may(0, 2, 3, 0), false);
        LabelledFlows twice = withCalled(rows(NEW, 0, 0, 0, SOURCE, 1, 0, 0, CALL, 2, 0, 1, SOURCE, 1, 0, 0,
                CALL, 3, 0, 1, SINK, 2, 0, 0, SINK, 3, 0, 0), RETURN, 1, 0, 0);
        twice.analyse(HIGHEST);
        for (int i = 0; i < 4; i++) {
            due("what one call gives comes back to it alone", twice.finding(i / 2, i % 2), i / 2 == i % 2);
        }
    }

    private static void moreComesBack() {
        sentence("For each e' that d gives to t, and each d' that holds under e' in t at a RETURN r:");
        LabelledFlows two = withCalled(rows(NEW, 0, 0, 0, SOURCE, 1, 0, 0, CALL, 2, 0, 1),
                BRANCH, 2, 0, 0, RETURN, 1, 0, 0, STORE, 0, 1, 1, RETURN, 3, 0, 0);
        two.analyse(HIGHEST);
        due("by the first RETURN", two.may(0, 3, 2, 0), true);
        due("by the second RETURN", two.may(0, 3, 5, 0), true);
        // The receiver's label goes on alone, the argument's too, in one and the same call.
        for (int r = 0; r <= 1; r++) {
            LabelledFlows both = withCalled(rows(NEW, 0, 0, 0, SOURCE, 0, 0, 0, SOURCE, 1, 0, 0, CALL, 2, 0, 1),
                    RETURN, r, 0, 0);
            both.analyse(HIGHEST);
            due("the receiver's label by RETURN " + r, both.may(0, 4, 2, 0), r == 0);
            due("the argument's label by RETURN " + r, both.may(0, 4, 2, 1), r == 1);
            LabelledFlows end = withCalled(rows(NEW, 0, 0, 0, SOURCE, 0, 0, 0, SOURCE, 1, 0, 0, CALL, 2, 0, 1),
                    STORE, 0, r, 1);
            end.analyse(HIGHEST);
            due("the receiver's label in a field", end.may(0, 4, 5, 0), r == 0);
            due("the argument's label in a field", end.may(0, 4, 5, 1), r == 1);
            LabelledFlows same = withCalled(rows(NEW, 0, 0, 0, SOURCE, 1, 0, 0, COPY, 0, 1, 0, CALL, 2, 0, 1),
                    RETURN, r, 0, 0);
            same.analyse(HIGHEST);
            due("one label in both, by RETURN " + r, same.may(0, 4, 2, 0), true);
        }
        LabelledFlows zero = withMain(BRANCH, 4, 0, 0, NEW, 0, 0, 0, CALL, 1, 0, 0, SINK, 1, 0, 0,
                SOURCE, 2, 0, 0, RETURN, 2, 0, 0);
        zero.bind(0, 0, 0);
        due("method 0 called by itself", zero.analyse(99), 6 + 1 + 3);
        due("its label comes back", zero.finding(0, 0), true);
        for (int m = 0; m <= 5; m++) {
            for (int place = 0; place <= 11; place++) {
                LabelledFlows x = new LabelledFlows();
                x.bind(0, 0, m);
                with(x, m == 0 ? 1 : 0, NEW, 0, 0, 0, SOURCE, 1, 0, 0, CALL, 2, 0, 1);
                for (int i = 0; i <= 11; i++) {
                    with(x, m, i == place ? SINK : GOTO, i == place ? 1 : Math.min(i + 1, 11), 0, 0);
                }
                x.analyse(HIGHEST);
                due("a SINK at place " + place + " of method " + m, x.finding(0, 0), m != 0);
            }
        }
    }

    private static void factsAtTheEnd() {
        sentence("the latter also for each d' that holds under e' at the END of t. (ZERO does not come back so.)");
        for (int q = 0; q <= 3; q++) {
            LabelledFlows end = withCalled(rows(NEW, 0, 0, 0, CALL, 3, 0, 0), SOURCE, q, 0, 0, STORE, 0, q, 1);
            end.analyse(HIGHEST);
            due("a field's fact comes back from the END", end.may(0, 2, 5, 0), true);
            for (int local = 0; local <= 3; local++) {
                due("a local's does not", end.may(0, 2, local, 0), false);
            }
            with(end, 1, GOTO, 2, 0, 0);
            end.analyse(HIGHEST);
            due("nor does anything where no END is come to", end.may(0, 2, 5, 0), false);
            end.drop(1);
            with(end, 1, BRANCH, 2, 0, 0);
            end.analyse(HIGHEST);
            due("but where it may be", end.may(0, 2, 5, 0), true);
        }
    }

    private static void beyondTheEnd() {
        sentence("a place beyond the END counts as the END)");
        for (int n = 0; n <= 9; n++) {
            for (int a = 3; a <= 11; a++) {
                LabelledFlows go = withMain(SOURCE, 0, 0, 0, GOTO, a, 0, 0, SINK, 0, 0, 0);
                LabelledFlows branch = withMain(SOURCE, 0, 0, 0, BRANCH, a, 0, 0, RETURN, 0, 0, 0);
                for (int i = 0; i < n; i++) {
                    with(go, 0, CLEAN, 1, 0, 0);
                    with(branch, 0, CLEAN, 1, 0, 0);
                }
                int end = 3 + n;
                int places = end - Math.min(a, end) + 1;
                String what = " to " + a + ", the END is " + end;
                due("GOTO" + what, go.analyse(99), 2 + 1 + 2 * places);
                due("BRANCH" + what, branch.analyse(99), 3 + 2 + 2 * places);
                due("it comes to the END", go.may(0, end, 0, 0), true);
                due("not to the SINK", go.finding(0, 0), false);
                due("it comes to the END", branch.may(0, end, 0, 0), true);
                due("and not before its place", branch.may(0, Math.min(a, end) - 1, 0, 0), Math.min(a, end) == 3);
            }
        }
        LabelledFlows later = withMain(SOURCE, 0, 0, 0, GOTO, 3, 0, 0);
        later.analyse(HIGHEST);
        due("place 2 is the END", later.may(0, 2, 0, 0), true);
        with(later, 0, CLEAN, 0, 0, 0);
        later.analyse(HIGHEST);
        due("place 3 is the END now", later.may(0, 3, 0, 0), true);
        due("and place 2 is not gone to", later.may(0, 2, 0, 0), false);
        with(later, 0, SINK, 0, 0, 0);
        later.analyse(HIGHEST);
        due("place 3 is a SINK now", later.finding(0, 0), true);
        later.drop(0);
        later.drop(0);
        later.analyse(HIGHEST);
        due("place 2 is the END again", later.may(0, 2, 0, 0), true);
        LabelledFlows called = withCalled(rows(NEW, 0, 0, 0, SOURCE, 1, 0, 0, CALL, 2, 0, 1),
                STORE, 0, 1, 0, GOTO, 11, 0, 0, RETURN, 1, 0, 0);
        called.analyse(HIGHEST);
        due("a called method comes to its END", called.may(1, 3, 4, 0), true);
        due("its field's fact comes back", called.may(0, 3, 4, 0), true);
        due("what it would return does not", called.may(0, 3, 2, 0), false);
    }

    private static void pathsCounted() {
        sentence("e is an entry fact of method m and d holds at place k (0 to the END) of m under e.");
        for (int size = 0; size <= 12; size++) {
            LabelledFlows x = new LabelledFlows();
            for (int i = 0; i < size; i++) {
                with(x, 0, CLEAN, 0, 0, 0);
            }
            due("ZERO at places 0 to " + size, x.analyse(99), size + 1);
        }
        LabelledFlows four = withMain(SOURCE, 0, 0, 0, SOURCE, 1, 0, 0, SOURCE, 2, 0, 0, SOURCE, 3, 0, 0,
                SINK, 0, 0, 0, SINK, 0, 0, 0, SINK, 0, 0, 0, SINK, 0, 0, 0, GOTO, 9, 0, 0, GOTO, 10, 0, 0,
                GOTO, 11, 0, 0, GOTO, 11, 0, 0);
        due("four labels, no END", four.analyse(99), 12 + 11 + 10 + 9 + 8);
        // The same fact under two entry facts counts twice.
        LabelledFlows twice = withCalled(rows(NEW, 0, 0, 0, SOURCE, 0, 0, 0, CALL, 1, 0, 0), COPY, 0, 1, 0);
        due("under two entry facts", twice.analyse(99), 4 + 2 + 2 + 1 + 3);
        LabelledFlows same = withCalled(rows(NEW, 0, 0, 0, SOURCE, 0, 0, 0, CALL, 1, 0, 0),
                BRANCH, 2, 0, 0, COPY, 0, 1, 0);
        due("under two entry facts", same.analyse(99), 4 + 2 + 3 + 3 + 4);
    }

    private static void findingsWhereTheSinkIs() {
        sentence("A FINDING is a pair of a source s and a sink: (s, a) holds at the place of that SINK a "
                + "under some entry fact.");
        LabelledFlows x = withMain(SINK, 0, 0, 0, SOURCE, 0, 0, 0, SINK, 0, 0, 0, SINK, 1, 0, 0, CLEAN, 0, 0, 0,
                SINK, 0, 0, 0);
        x.analyse(HIGHEST);
        due("before it", x.finding(0, 0), false);
        due("behind it", x.finding(0, 1), true);
        due("of another local", x.finding(0, 2), false);
        due("behind a CLEAN", x.finding(0, 3), false);
        LabelledFlows called = withCalled(rows(NEW, 0, 0, 0, SOURCE, 1, 0, 0, CALL, 2, 0, 1),
                SINK, 1, 0, 0, SINK, 0, 0, 0);
        called.analyse(HIGHEST);
        due("under an entry fact with the label", called.finding(0, 0), true);
        due("of another local", called.finding(0, 1), false);
        called.bind(0, 0, NONE);
        called.analyse(HIGHEST);
        due("in a method that is not reached", called.finding(0, 0), false);
    }

    private static void limits() {
        sentence("When PATHS (1 at least: ZERO holds at place 0 of method 0) is at most limit, the verdict is "
                + "COMPLETE "
                + "and PATHS is answered; otherwise the verdict is INCOMPLETE and NONE is answered.");
        for (int size = 0; size <= 5; size++) {
            LabelledFlows x = leak();
            for (int i = 5; i > size; i--) {
                x.drop(0);
            }
            int paths = new int[] {1, 3, 5, 8, 11, 14}[size];
            for (int limit : new int[] {paths, paths - 1, HIGHEST, paths + 1, 0, paths, LOWEST, paths, -1}) {
                boolean complete = paths <= limit;
                due(paths + " paths, limit " + limit, x.analyse(limit), complete ? paths : NONE);
                due("verdict", x.verdict(), complete ? COMPLETE : INCOMPLETE);
            }
        }
    }

    private static void verdicts() {
        sentence("0 when there is none, 1 COMPLETE, 2 INCOMPLETE: of the latest analyse "
                + "(a run leaves it, and analyse leaves the run).");
        LabelledFlows x = leak();
        due("none", x.verdict(), 0);
        x.run(0, 3);
        due("a run brings none", x.verdict(), 0);
        x.analyse(13);
        due("incomplete", x.verdict(), INCOMPLETE);
        x.analyse(14);
        due("complete", x.verdict(), COMPLETE);
        x.analyse(13);
        due("incomplete again", x.verdict(), INCOMPLETE);
        x.run(0, 3);
        due("a run leaves it", x.verdict(), INCOMPLETE);
        x.analyse(14);
        x.run(0, 200);
        due("a run leaves it", x.verdict(), COMPLETE);
        due("and what was worked out", x.finding(0, 0), true);
        x.run(0, 3);
        for (int limit = 13; limit <= 14; limit++) {
            x.analyse(limit);
            due("analyse leaves the outcome", x.outcome(), STEPS);
            due("and what was made", x.made(), 1);
            due("and the hits", x.hits(0, 0), 0);
            x.run(0, 200);
            x.analyse(limit);
            due("analyse leaves the outcome", x.outcome(), ENDED);
            due("and the hits", x.hits(0, 0), 1);
            x.run(0, 3);
        }
    }

    private static final int[] NO_NUMBERS = {LOWEST, -2, -1, 1, 2, 3, 4, 5, 32, 33, HIGHEST};

    private static void findingAnswers() {
        sentence("Whether source s and sink number t are a FINDING; false when the verdict is not COMPLETE "
                + "(whatever was found) or there is no such source or sink.");
        LabelledFlows x = leak();
        due("no verdict", x.finding(0, 0), false);
        x.analyse(14);
        due("complete", x.finding(0, 0), true);
        for (int bad : NO_NUMBERS) {
            due("source " + bad, x.finding(bad, 0), false);
            due("sink " + bad, x.finding(0, bad), false);
        }
        x.analyse(13);
        due("incomplete, whatever was found", x.finding(0, 0), false);
        x.analyse(14);
        due("complete again", x.finding(0, 0), true);
        LabelledFlows four = withMain(SOURCE, 0, 0, 0, SOURCE, 1, 0, 0, SOURCE, 2, 0, 0, SOURCE, 3, 0, 0,
                SINK, 0, 0, 0, SINK, 1, 0, 0, SINK, 2, 0, 0, SINK, 3, 0, 0);
        four.analyse(HIGHEST);
        due("the last source and the last sink", four.finding(3, 3), true);
        for (int bad : new int[] {LOWEST, -1, 4, 5, HIGHEST}) {
            due("source " + bad, four.finding(bad, 3), false);
            due("sink " + bad, four.finding(3, bad), false);
        }
        four.drop(0);
        four.analyse(HIGHEST);
        due("a dropped sink", four.finding(3, 3), false);
        due("the last one now", four.finding(2, 2), true);
        LabelledFlows sink = withMain(SINK, 0, 0, 0);
        sink.analyse(HIGHEST);
        due("a sink, but no source", sink.finding(0, 0), false);
        LabelledFlows source = withMain(SOURCE, 0, 0, 0);
        source.analyse(HIGHEST);
        due("a source, but no sink", source.finding(0, 0), false);
    }

    /** Six sites, of which the given one alone is in local 1, the others are in local 0. */
    private static LabelledFlows withSites(int site) {
        LabelledFlows x = new LabelledFlows();
        for (int i = 0; i < 6; i++) {
            with(x, 0, NEW, i == site ? 1 : 0, 0, 0);
        }
        return x;
    }

    private static void wheres() {
        sentence("where 0 .. 3 is a local, 4 + 2 * o + f (4 .. 15) field f of site o.");
        for (int i = 0; i < 12; i++) {
            LabelledFlows x = with(withSites(i / 2), 0, SOURCE, 2, 0, 0, STORE, 1, 2, i % 2);
            x.analyse(HIGHEST);
            for (int where = 0; where <= 15; where++) {
                due("field " + i % 2 + " of site " + i / 2 + ", where " + where, x.may(0, 8, where, 0),
                        where == 2 || where == 4 + i);
            }
        }
        for (int local = 0; local <= 3; local++) {
            LabelledFlows x = withMain(SOURCE, local, 0, 0);
            x.analyse(HIGHEST);
            for (int where = 0; where <= 15; where++) {
                due("local " + local + ", where " + where, x.may(0, 1, where, 0), where == local);
            }
        }
    }

    private static void cells() {
        sentence("Q(o, f), as the sum of 2 to the power of its sites;");
        for (int i = 0; i < 12; i++) {
            LabelledFlows x = with(withSites(i / 2), 0, STORE, 1, 0, i % 2);
            x.analyse(HIGHEST);
            for (int j = 0; j < 12; j++) {
                due("cell " + j / 2 + " " + j % 2, x.cell(j / 2, j % 2), i == j ? 63 - (1 << i / 2) : 0);
            }
        }
    }

    private static void mayAnswers() {
        sentence("false when the verdict is not COMPLETE, or there is no such method, place (0 to its END) or "
                + "source, "
                + "or where is not 0 .. 15.");
        LabelledFlows x = leak();
        due("no verdict", x.may(0, 5, 0, 0), false);
        x.analyse(13);
        due("incomplete", x.may(0, 5, 0, 0), false);
        x.analyse(14);
        due("complete", x.may(0, 5, 0, 0), true);
        for (int bad : new int[] {LOWEST, -2, -1, 1, 5, 6, 7, HIGHEST}) {
            due("method " + bad, x.may(bad, 5, 0, 0), false);
            due("method " + bad, x.may(bad, 0, 0, 0), false);
        }
        for (int place = 0; place <= 5; place++) {
            due("place " + place, x.may(0, place, 0, 0), place > 0);
        }
        for (int bad : new int[] {LOWEST, -1, 6, 7, 12, 13, 14, 18, 26, HIGHEST}) {
            due("place " + bad, x.may(0, bad, 0, 0), false);
        }
        for (int where = 0; where <= 15; where++) {
            due("where " + where, x.may(0, 5, where, 0), where == 0 || where == 4);
        }
        for (int bad : new int[] {LOWEST, -32, -1, 16, 17, 20, 32, 36, 64, HIGHEST}) {
            due("where " + bad, x.may(0, 5, bad, 0), false);
        }
        for (int bad : NO_NUMBERS) {
            due("source " + bad, x.may(0, 5, 0, bad), false);
        }
        LabelledFlows far = withMain(NEW, 0, 0, 0, NEW, 0, 0, 0, NEW, 0, 0, 0, NEW, 0, 0, 0, NEW, 0, 0, 0,
                NEW, 1, 0, 0,
                SOURCE, 3, 0, 0, SOURCE, 3, 0, 0, SOURCE, 3, 0, 0, SOURCE, 3, 0, 0, STORE, 1, 3, 0, STORE, 1, 3, 1);
        far.analyse(HIGHEST);
        due("the last place, field 1 of the last site, the last source", far.may(0, 12, 15, 3), true);
        due("field 0 of the last site", far.may(0, 12, 14, 3), true);
        due("field 1 of the site before it", far.may(0, 12, 13, 3), false);
        due("the last local", far.may(0, 12, 3, 3), true);
        due("the source before it", far.may(0, 12, 3, 2), false);
        due("place 13", far.may(0, 13, 15, 3), false);
        due("where 16", far.may(0, 12, 16, 3), false);
        due("source 4", far.may(0, 12, 15, 4), false);
    }

    private static void entriesAnswers() {
        sentence("The number of entry facts of a method; NONE when the verdict is not COMPLETE or the method is "
                + "not 0 .. 5.");
        LabelledFlows x = leak();
        due("no verdict", x.entries(0), NONE);
        x.analyse(13);
        due("incomplete", x.entries(0), NONE);
        x.analyse(14);
        for (int m = 0; m <= 5; m++) {
            due("entries of " + m, x.entries(m), m == 0 ? 1 : 0);
        }
        for (int bad : new int[] {LOWEST, -2, -1, 6, 7, HIGHEST}) {
            due("entries of " + bad, x.entries(bad), NONE);
        }
        LabelledFlows four = withMain(NEW, 0, 0, 0, SOURCE, 1, 0, 0, STORE, 0, 1, 0, CALL, 2, 0, 1,
                SOURCE, 1, 0, 0, STORE, 0, 1, 1, CALL, 2, 0, 1);
        four.bind(0, 0, 5);
        four.analyse(HIGHEST);
        // ZERO; (0, 1) and (1, 1); (0, 0, 0) and (1, 0, 1).
        due("entries of method 5", four.entries(5), 5);
    }

    private static void pointsAnswers() {
        sentence("P(method, x), as the sum of 2 to the power of its sites (0 for a method that is not reached, "
                + "as with entries); NONE when the verdict is not COMPLETE, or there is no such method or local.");
        LabelledFlows x = leak();
        with(x, 5, NEW, 3, 0, 0);
        due("no verdict", x.points(0, 1), NONE);
        x.analyse(13);
        due("incomplete", x.points(0, 1), NONE);
        x.analyse(14);
        for (int m = 0; m <= 5; m++) {
            for (int local = 0; local <= 3; local++) {
                due("points " + m + " " + local, x.points(m, local), m == 0 && local == 1 ? 1 : 0);
            }
        }
        due("not reached, as with entries", x.entries(5), 0);
        for (int bad : new int[] {LOWEST, -2, -1, 6, 7, HIGHEST}) {
            due("method " + bad, x.points(bad, 1), NONE);
        }
        for (int bad : new int[] {LOWEST, -2, -1, 4, 5, HIGHEST}) {
            due("local " + bad, x.points(0, bad), NONE);
            due("local " + bad + " of a method that is not reached", x.points(5, bad), NONE);
        }
        LabelledFlows all = withMain(NEW, 0, 0, 0, NEW, 0, 0, 0, NEW, 0, 0, 0, NEW, 0, 0, 0, NEW, 0, 0, 0,
                NEW, 0, 0, 0);
        all.analyse(HIGHEST);
        due("all six sites", all.points(0, 0), 63);
    }

    private static void cellAnswers() {
        sentence("NONE when the verdict is not COMPLETE, o is not 0 .. 5 or f is not 0 or 1. (0 when there is "
                + "no site o.)");
        LabelledFlows x = leak();
        due("no verdict", x.cell(0, 1), NONE);
        x.analyse(13);
        due("incomplete", x.cell(0, 1), NONE);
        x.analyse(14);
        for (int i = 0; i < 12; i++) {
            due("cell " + i / 2 + " " + i % 2, x.cell(i / 2, i % 2), i == 1 ? 1 : 0);
        }
        for (int bad : new int[] {LOWEST, -2, -1, 6, 7, HIGHEST}) {
            due("site " + bad, x.cell(bad, 1), NONE);
        }
        for (int bad : new int[] {LOWEST, -2, -1, 2, 3, HIGHEST}) {
            due("field " + bad, x.cell(0, bad), NONE);
            due("field " + bad + " of no site", x.cell(5, bad), NONE);
        }
        LabelledFlows all = withMain(NEW, 0, 0, 0, NEW, 0, 0, 0, NEW, 0, 0, 0, NEW, 0, 0, 0, NEW, 0, 0, 0,
                NEW, 0, 0, 0,
                STORE, 0, 0, 0, LOAD, 1, 0, 0, STORE, 1, 1, 1);
        all.analyse(HIGHEST);
        due("the last site, field 0", all.cell(5, 0), 63);
        due("the last site, field 1", all.cell(5, 1), 63);
        for (int i = 0; i < 4; i++) {
            all.drop(0);
        }
        all.analyse(HIGHEST);
        due("no site 5 any more", all.cell(5, 0), 0);
        due("what was stored is forgotten", all.cell(0, 0), 0);
    }

    public static void main(String[] args) {
        reachedMethods();
        setsOfStatements();
        setsInEachMethod();
        setsThatSettleLate();
        callsPoint();
        asItIs();
        factsThatSettleLate();
        zeroIsAnEntryFact();
        entryFactsHold();
        nothingFollowsTheEnd();
        zeroGoesOn();
        sourcesWhereZeroComes();
        nothingPassesReturn();
        localsKept();
        copiesToItself();
        storesToAll();
        fieldsLoaded();
        fieldsPassCalls();
        localsPassCalls();
        factsOfEachTarget();
        givenFacts();
        returnedFacts();
        moreComesBack();
        factsAtTheEnd();
        beyondTheEnd();
        pathsCounted();
        findingsWhereTheSinkIs();
        limits();
        verdicts();
        findingAnswers();
        wheres();
        cells();
        mayAnswers();
        entriesAnswers();
        pointsAnswers();
        cellAnswers();
        finish();
    }
}

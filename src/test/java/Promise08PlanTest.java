import java.util.Map;

public final class Promise08PlanTest {
    private static final int OK = MrpPlanner.OK;
    private static final int PLAN_TOO_LARGE = MrpPlanner.PLAN_TOO_LARGE;
    private static final int CURRENT = MrpPlanner.COUNT_CURRENT;
    private static final int GROSS = MrpPlanner.CELL_GROSS;
    private static final int PLANNED = MrpPlanner.CELL_PLANNED;
    private static final int RELEASE = MrpPlanner.CELL_RELEASE;

    public static void main(String[] args) {
        Section section = new Section("Promise 8: plan");
        section.test("Computes a new plan, as given under The plan, from the current data.",
            Promise08PlanTest::fromTheCurrentData);
        section.test("Any old plan and its execution are replaced.",
            Promise08PlanTest::replacesTheOldPlan);
        section.test("If the plan fails (some GROSS is greater than LIMIT), the plan is discarded:"
                + " CURRENT = -1, every plan answer is 0, and the call answers PLAN_TOO_LARGE.",
            Promise08PlanTest::fails);
        section.test("Otherwise the new plan is kept, CURRENT becomes 0, STOCK of every item becomes its on-hand,"
                + " and the call answers OK.",
            Promise08PlanTest::isKept);
        section.test("plan() never changes item data or edges.",
            Promise08PlanTest::leavesTheData);
        section.test("A GROSS exactly equal to LIMIT does not make the plan fail.",
            Promise08PlanTest::limitItself);
        section.test("Calling plan() again with unchanged data gives the same answer.",
            Promise08PlanTest::theSameAnswerAgain);
        section.test("If that answer is OK, it yields the same plan values"
                + " and resets CURRENT to 0 and STOCK to on-hand.",
            Promise08PlanTest::theSamePlanAgain);
        section.test("If it is PLAN_TOO_LARGE, there is still no plan (CURRENT = -1, every plan answer 0).",
            Promise08PlanTest::stillNoPlan);
        section.test("While a successful plan is kept, for every item i, every item c and every period t:"
                + " PROJECTED[t] of i is >= 0; GROSS[t] of c equals D[t] of c plus the sum, over all parents p,"
                + " of getUsage(p, c) * RELEASE of p in t; and the sum over t of RELEASE of i equals"
                + " the sum over t of PLANNED of i.",
            Promise08PlanTest::laws);
        section.end();
    }

    private static void fromTheCurrentData(Check check) {
        MrpPlanner x = new MrpPlanner(3, 4);
        x.addComponent(2, 1, 2);
        x.addComponent(1, 0, 3);
        x.setDemand(2, 1, 4);
        check.due("plan()", x.plan(), OK);
        check.dueRow(x, 0, GROSS, 0, 24, 0, 0);
        // An edit shows only in the next plan(), and there in full.
        x.setOnHand(1, 3);
        x.setItem(2, 1, MrpPlanner.FIXED_QTY, 5);
        x.setItem(0, 8, MrpPlanner.LOT_FOR_LOT, 0);
        x.setReceipt(0, 0, 1);
        check.due("plan()", x.plan(), OK);
        check.dueRow(x, 2, RELEASE, 5, 0, 0, 0);
        check.dueRow(x, 1, RELEASE, 7, 0, 0, 0);
        check.dueRow(x, 0, GROSS, 21, 0, 0, 0);
        check.dueRow(x, 0, RELEASE, 20, 0, 0, 0);
        check.due("PASTDUE", x.getItem(0, MrpPlanner.ITEM_PASTDUE), 20);

        MrpPlanner empty = new MrpPlanner(3, 4);
        Map<String, Long> before = Check.answers(empty);
        check.due("plan() of nothing", empty.plan(), OK);
        check.dueChanged("plan() of nothing", before, empty, "CURRENT");
    }

    private static void replacesTheOldPlan(Check check) {
        MrpPlanner x = new MrpPlanner(3, 4);
        x.addComponent(2, 1, 2);
        x.addComponent(1, 0, 3);
        x.setItem(0, 8, MrpPlanner.LOT_FOR_LOT, 0);
        x.setDemand(2, 1, 4);
        x.plan();
        x.step();
        x.scrap(0, 50);
        // The edge from 1 to 0 is turned round: no release of the first plan may be used.
        x.setDemand(2, 1, 0);
        x.setDemand(2, 3, 5);
        x.removeComponent(1, 0);
        x.addComponent(0, 1, 1);
        check.due("plan()", x.plan(), OK);
        check.dueRow(x, 0, GROSS, 0, 0, 0, 0);
        check.dueRow(x, 0, RELEASE, 0, 0, 0, 0);
        check.due("PASTDUE", x.getItem(0, MrpPlanner.ITEM_PASTDUE), 0);
        check.dueRow(x, 1, GROSS, 0, 0, 0, 10);
        check.due("STOCK", x.getItem(0, MrpPlanner.ITEM_STOCK), 0);
        check.due("CURRENT", x.getCount(CURRENT), 0);

        // A planner that went through all this plans like one that is new.
        for (State state : State.values()) {
            MrpPlanner old = state.make();
            check.due(state + ": plan()", old.plan(), state == State.TOO_LARGE ? PLAN_TOO_LARGE : OK);
            check.dueChanged(state + " beside a new one", Check.answers(copyOf(old)), old);
        }
    }

    /** A new planner with the same data and edges, planned. */
    private static MrpPlanner copyOf(MrpPlanner x) {
        int items = x.getCount(MrpPlanner.COUNT_ITEMS);
        int periods = x.getCount(MrpPlanner.COUNT_PERIODS);
        MrpPlanner copy = new MrpPlanner(items, periods);
        for (int i = 0; i < items; i++) {
            copy.setItem(i, (int) x.getItem(i, MrpPlanner.ITEM_LEAD),
                (int) x.getItem(i, MrpPlanner.ITEM_RULE), (int) x.getItem(i, MrpPlanner.ITEM_PARAM));
            copy.setOnHand(i, (int) x.getItem(i, MrpPlanner.ITEM_ONHAND));
            for (int t = 0; t < periods; t++) {
                copy.setDemand(i, t, (int) x.getCell(i, t, MrpPlanner.CELL_DEMAND));
                copy.setReceipt(i, t, (int) x.getCell(i, t, MrpPlanner.CELL_RECEIPT));
            }
            for (int child = 0; child < items; child++) {
                if (x.getUsage(i, child) > 0) {
                    copy.addComponent(i, child, x.getUsage(i, child));
                }
            }
        }
        copy.plan();
        return copy;
    }

    private static void dueTooLarge(Check check, String what, MrpPlanner x) {
        Map<String, Long> before = Check.answers(x);
        check.due(what + ": plan()", x.plan(), PLAN_TOO_LARGE);
        check.due(what + ": CURRENT", x.getCount(CURRENT), -1);
        check.dueDiscarded(what, before, x);
        check.due(what + ": step()", x.step(), MrpPlanner.STEP_NO_PLAN);
        check.due(what + ": scrap(0, 1)", x.scrap(0, 1), false);
    }

    private static void fails(Check check) {
        for (int period = 0; period < 16; period++) {
            MrpPlanner x = Samples.tenMillionfold();
            x.setOnHand(4, 5);
            x.setDemand(4, period, 5);
            x.setDemand(0, period, 100000);
            check.due("plan()", x.plan(), OK);
            x.step();
            // One unit more, and all of the old plan must be gone.
            x.setDemand(10, period, 1);
            dueTooLarge(check, "LIMIT + 1 in " + period, x);
            x.setDemand(10, period, 0);
            check.due("plan() of one unit less", x.plan(), OK);
            check.due("GROSS once more", x.getCell(10, period, GROSS), MrpPlanner.LIMIT);
        }
        // 9^8 * 100000 is above LIMIT: item 8 fails, and three more items stand below it.
        MrpPlanner x = Samples.chain(12, 4, 1, 9);
        x.setOnHand(11, 100000);
        x.setDemand(0, 0, 100000);
        dueTooLarge(check, "in the middle", x);
        x.setDemand(0, 0, 1);
        check.due("plan()", x.plan(), OK);
        check.due("GROSS of 11", x.getCell(11, 0, GROSS), 31381059609L);
    }

    private static void isKept(Check check) {
        for (State state : State.values()) {
            if (state != State.TOO_LARGE) {
                MrpPlanner x = state.make();
                check.due(state + ": plan()", x.plan(), OK);
                check.due(state + ": CURRENT", x.getCount(CURRENT), 0);
                for (int i = 0; i < x.getCount(MrpPlanner.COUNT_ITEMS); i++) {
                    check.due(state + ": STOCK of " + i,
                        x.getItem(i, MrpPlanner.ITEM_STOCK), x.getItem(i, MrpPlanner.ITEM_ONHAND));
                }
                Map<String, Long> before = Check.answers(x);
                check.dueChanged(state + ": asked again", before, x);
                check.due(state + ": step()", x.step(), 0);
            }
        }
    }

    private static void leavesTheData(Check check) {
        for (State state : State.values()) {
            dueDataLeft(check, state + "", state.make(), state == State.TOO_LARGE ? PLAN_TOO_LARGE : OK);
        }
        // Data of all kinds that no plan() has seen yet: the first that goes well, and the first that fails.
        MrpPlanner x = Samples.tenMillionfold();
        for (int i = 0; i < 11; i++) {
            x.setItem(i, 8 - i % 4, i % 3, 1 + i % 8);
            x.setOnHand(i, 100000 - i);
            for (int t = 0; t < 16; t++) {
                x.setDemand(i, t, 10 + i + t);
                x.setReceipt(i, t, 20 + i + t);
            }
        }
        dueDataLeft(check, "going well", x, OK);
        for (int t = 3; t < 6; t++) {
            x.setDemand(0, t, 100000);
        }
        dueDataLeft(check, "failing", x, PLAN_TOO_LARGE);
    }

    private static void dueDataLeft(Check check, String what, MrpPlanner x, int want) {
        Map<String, Long> before = Check.answers(x);
        check.due(what + ": plan()", x.plan(), want);
        Map<String, Long> after = Check.answers(x);
        for (String name : before.keySet()) {
            if (!Check.isPlanAnswer(name) && !name.equals("CURRENT")) {
                check.due(what + ": " + name + " after plan()", after.get(name), before.get(name));
            }
        }
    }

    private static void limitItself(Check check) {
        for (int period = 0; period < 16; period++) {
            MrpPlanner x = Samples.tenMillionfold();
            x.setDemand(0, period, 100000);
            check.due("LIMIT in " + period, x.plan(), OK);
            check.due("GROSS in " + period, x.getCell(10, period, GROSS), 1000000000000L);
            check.due("PLANNED in " + period, x.getCell(10, period, PLANNED), 1000000000000L);
        }
        // LIMIT in every period at once; only a single GROSS is measured, not their sum.
        MrpPlanner all = Samples.tenMillionfold();
        for (int t = 0; t < 16; t++) {
            all.setDemand(0, t, 100000);
        }
        check.due("LIMIT in every period", all.plan(), OK);
        // PLANNED and RELEASE may be far above LIMIT.
        all.setItem(10, 8, MrpPlanner.PERIOD_ORDER, 8);
        check.due("LIMIT in every period, lots of eight", all.plan(), OK);
        check.due("RELEASE", all.getCell(10, 0, RELEASE), 16 * MrpPlanner.LIMIT);

        // LIMIT made up of the item's own demand and of its parent's release.
        MrpPlanner sum = Samples.tenMillionfold();
        sum.setDemand(0, 3, 100000);
        sum.setOnHand(9, 30000);
        sum.setDemand(10, 3, 60000);
        check.due("LIMIT as a sum", sum.plan(), OK);
        check.due("GROSS", sum.getCell(10, 3, GROSS), MrpPlanner.LIMIT);
        sum.setDemand(10, 3, 60001);
        check.due("LIMIT + 1 as a sum", sum.plan(), PLAN_TOO_LARGE);
    }

    private static void theSameAnswerAgain(Check check) {
        for (State state : State.values()) {
            MrpPlanner x = state.make();
            int first = x.plan();
            check.due(state + ": plan()", first, state == State.TOO_LARGE ? PLAN_TOO_LARGE : OK);
            for (int k = 0; k < 3; k++) {
                x.step();
                x.scrap(0, 100000);
                check.due(state + ": plan() again", x.plan(), first);
            }
        }
    }

    private static void theSamePlanAgain(Check check) {
        for (State state : State.values()) {
            if (state != State.TOO_LARGE) {
                MrpPlanner x = state.make();
                x.plan();
                Map<String, Long> first = Check.answers(x);
                // After no step, after each number of them up to P, and after one too many.
                for (int steps = 0; steps <= x.getCount(MrpPlanner.COUNT_PERIODS) + 1; steps++) {
                    for (int k = 0; k < steps; k++) {
                        x.step();
                    }
                    x.scrap(0, 100000);
                    check.due(state + ": plan() again", x.plan(), OK);
                    check.dueChanged(state + ": plan() after " + steps + " steps", first, x);
                }
            }
        }
        // Unchanged data may also be data that were changed and changed back.
        MrpPlanner x = State.PLANNED.make();
        Map<String, Long> first = Check.answers(x);
        x.setDemand(0, 0, 99);
        x.setDemand(0, 0, 10);
        x.plan();
        check.dueChanged("plan() after an edit taken back", first, x);
    }

    private static void stillNoPlan(Check check) {
        MrpPlanner x = State.TOO_LARGE.make();
        for (int k = 0; k < 3; k++) {
            dueTooLarge(check, "time " + k, x);
        }
    }

    private static void laws(Check check) {
        for (State state : State.values()) {
            MrpPlanner x = state.make();
            if (state.hasPlan()) {
                dueLaws(check, state + " as it is", x);
                x.plan();
                for (int t = 0; t < x.getCount(MrpPlanner.COUNT_PERIODS); t++) {
                    x.step();
                    x.scrap(0, 100000);
                    dueLaws(check, state + " after step " + t, x);
                }
            }
        }
        MrpPlanner x = Samples.tenMillionfold();
        x.setItem(0, 3, MrpPlanner.FIXED_QTY, 9999);
        x.setItem(4, 8, MrpPlanner.PERIOD_ORDER, 3);
        for (int t = 0; t < 16; t++) {
            x.setDemand(0, t, 100 + t);
            x.setReceipt(4, t, 5000 * (t % 3));
        }
        check.due("plan()", x.plan(), OK);
        dueLaws(check, "a chain", x);
    }

    private static void dueLaws(Check check, String at, MrpPlanner x) {
        for (int i = 0; i < x.getCount(MrpPlanner.COUNT_ITEMS); i++) {
            long planned = 0;
            long released = 0;
            for (int t = 0; t < x.getCount(MrpPlanner.COUNT_PERIODS); t++) {
                String cell = at + ", item " + i + ", period " + t + ": ";
                planned += x.getCell(i, t, PLANNED);
                released += x.getCell(i, t, RELEASE);
                check.due(cell + "PROJECTED >= 0", x.getCell(i, t, MrpPlanner.CELL_PROJECTED) >= 0, true);
                check.due(cell + "GROSS", x.getCell(i, t, GROSS), demandAndUsage(x, i, t));
            }
            check.due(at + ", item " + i + ": sum of RELEASE", released, planned);
        }
    }

    private static long demandAndUsage(MrpPlanner x, int item, int period) {
        long sum = x.getCell(item, period, MrpPlanner.CELL_DEMAND);
        for (int p = 0; p < x.getCount(MrpPlanner.COUNT_ITEMS); p++) {
            sum += x.getUsage(p, item) * x.getCell(p, period, RELEASE);
        }
        return sum;
    }
}

import java.util.Map;
import java.util.function.Consumer;

public final class WordsDiscardTest {
    private static final int CURRENT = MrpPlanner.COUNT_CURRENT;

    public static void main(String[] args) {
        Section section = new Section("Words used below: Having a plan and discarding it");
        section.test("There is a plan from a plan() call that answers OK until the plan is discarded.",
            WordsDiscardTest::keptUntilDiscarded);
        section.test("The plan is discarded by every successful edit call (addComponent answering OK,"
                + " removeComponent, setItem, setOnHand, setReceipt or setDemand answering true),"
                + " even if the call stores a value that was already there.",
            WordsDiscardTest::discardedByEveryEdit);
        section.test("It is also discarded by a failed plan().",
            WordsDiscardTest::discardedByAFailedPlan);
        section.test("With no plan, and before the first successful plan: CURRENT = -1, and every plan answer"
                + " (GROSS, NET, PLANNED, RELEASE, PROJECTED, PASTDUE, STOCK) is 0.",
            WordsDiscardTest::withoutAPlan);
        section.test("Arguments are never clamped, except by the constructor.",
            WordsDiscardTest::neverClamped);
        section.test("A refused call changes nothing.",
            WordsDiscardTest::refusedCallsChangeNothing);
        section.end();
    }

    private static void keptUntilDiscarded(Check check) {
        MrpPlanner x = State.EDITED.make();
        check.due("CURRENT before plan()", x.getCount(CURRENT), -1);
        check.due("plan()", x.plan(), MrpPlanner.OK);
        check.due("CURRENT after plan()", x.getCount(CURRENT), 0);
        check.dueRow(x, 0, MrpPlanner.CELL_GROSS, 10, 11, 12, 13, 14, 15);
        // Getters, steps, scraps and refused edits leave it, up to the end and beyond.
        for (int t = 0; t <= 6; t++) {
            check.due("CURRENT", x.getCount(CURRENT), t);
            x.scrap(1, 100000);
            x.setOnHand(0, -1);
            x.removeComponent(1, 0);
            x.step();
        }
        x.step();
        check.due("CURRENT at the end", x.getCount(CURRENT), 6);
        check.dueRow(x, 0, MrpPlanner.CELL_GROSS, 10, 11, 12, 13, 14, 15);
        x.setOnHand(0, 5);
        check.due("CURRENT after an edit", x.getCount(CURRENT), -1);
        check.due("plan() again", x.plan(), MrpPlanner.OK);
        check.due("CURRENT after plan() again", x.getCount(CURRENT), 0);
    }

    private static void discardedByEveryEdit(Check check) {
        // Before the first step, in the middle and at the end; Samples.busy() tells what is there.
        for (State state : new State[] {State.PLANNED, State.BUSY, State.DONE}) {
            discards(check, state, "a new edge", x -> x.addComponent(1, 3, 1), "USAGE 1 3", "EDGES");
            discards(check, state, "another usage", x -> x.addComponent(0, 1, 9), "USAGE 0 1");
            discards(check, state, "the same usage", x -> x.addComponent(0, 1, 2));
            discards(check, state, "an edge gone", x -> x.removeComponent(2, 3), "USAGE 2 3", "EDGES", "LEVEL 3");
            discards(check, state, "another lead", x -> x.setItem(1, 3, MrpPlanner.FIXED_QTY, 50), "LEAD 1");
            discards(check, state, "another parameter", x -> x.setItem(2, 1, MrpPlanner.PERIOD_ORDER, 4), "PARAM 2");
            discards(check, state, "another rule", x -> x.setItem(1, 2, MrpPlanner.LOT_FOR_LOT, 50),
                "RULE 1", "PARAM 1");
            discards(check, state, "the same item data", x -> x.setItem(1, 2, MrpPlanner.FIXED_QTY, 50));
            discards(check, state, "the same lot for lot", x -> x.setItem(0, 1, MrpPlanner.LOT_FOR_LOT, 9));
            discards(check, state, "another on-hand", x -> x.setOnHand(3, 9), "ONHAND 3");
            discards(check, state, "the same on-hand", x -> x.setOnHand(3, 8));
            discards(check, state, "another receipt", x -> x.setReceipt(3, 5, 0), "RECEIPT 3 5");
            discards(check, state, "the same receipt", x -> x.setReceipt(3, 5, 9));
            discards(check, state, "another demand", x -> x.setDemand(3, 5, 0), "DEMAND 3 5");
            discards(check, state, "the same demand", x -> x.setDemand(3, 5, 36));
        }
    }

    private static void discards(Check check, State state, String edit, Consumer<MrpPlanner> call, String... changed) {
        MrpPlanner x = state.make();
        Map<String, Long> before = Check.answers(x);
        call.accept(x);
        check.dueDiscarded(state + ": " + edit, before, x, changed);
        check.due(state + ": " + edit + ": step()", x.step(), MrpPlanner.STEP_NO_PLAN);
        check.due(state + ": " + edit + ": scrap(0, 1)", x.scrap(0, 1), false);
    }

    /** A kept plan can only fail after an edit, which has discarded it already; what is left must be nothing. */
    private static void discardedByAFailedPlan(Check check) {
        MrpPlanner x = Samples.tenMillionfold();
        x.setOnHand(0, 9);
        x.setDemand(0, 5, 100);
        x.setDemand(5, 0, 100);
        check.due("plan()", x.plan(), MrpPlanner.OK);
        x.step();
        x.setDemand(10, 15, 1);
        x.setDemand(0, 15, 100000);
        Map<String, Long> before = Check.answers(x);
        check.due("plan() of too much", x.plan(), MrpPlanner.PLAN_TOO_LARGE);
        check.dueDiscarded("plan() of too much", before, x);
        check.due("step()", x.step(), MrpPlanner.STEP_NO_PLAN);
        check.due("scrap(0, 1)", x.scrap(0, 1), false);
    }

    private static void withoutAPlan(Check check) {
        for (State state : State.values()) {
            if (!state.hasPlan()) {
                MrpPlanner x = state.make();
                Map<String, Long> before = Check.answers(x);
                check.due(state + ": CURRENT", x.getCount(CURRENT), -1);
                check.dueDiscarded(state + "", before, x);
            }
        }
        // The first plan() of all fails.
        MrpPlanner x = Samples.tenMillionfold();
        x.setOnHand(0, 3);
        x.setDemand(0, 15, 100000);
        x.setDemand(0, 14, 5);
        x.setDemand(10, 15, 100000);
        x.setDemand(10, 0, 6);
        Map<String, Long> before = Check.answers(x);
        check.dueDiscarded("before the first plan()", before, x);
        check.due("the first plan()", x.plan(), MrpPlanner.PLAN_TOO_LARGE);
        check.dueDiscarded("the first plan()", before, x);
    }

    private static void neverClamped(Check check) {
        MrpPlanner x = State.BUSY.make();
        Map<String, Long> before = Check.answers(x);
        check.due("usage 10 is not 9", x.addComponent(1, 3, 10), MrpPlanner.ERR_RANGE);
        check.due("usage 0 is not 1", x.addComponent(1, 3, 0), MrpPlanner.ERR_RANGE);
        check.due("parent -1 is not 0", x.addComponent(-1, 3, 1), MrpPlanner.ERR_RANGE);
        check.due("child N is not N-1", x.addComponent(1, 4, 1), MrpPlanner.ERR_RANGE);
        check.due("parent -1 is not 0", x.removeComponent(-1, 1), false);
        check.due("child N is not N-1", x.removeComponent(2, 4), false);
        check.due("lead -1 is not 0", x.setItem(0, -1, MrpPlanner.LOT_FOR_LOT, 0), false);
        check.due("lead 9 is not 8", x.setItem(0, 9, MrpPlanner.LOT_FOR_LOT, 0), false);
        check.due("rule 3 is not 2", x.setItem(0, 0, 3, 1), false);
        check.due("lot 10001 is not 10000", x.setItem(0, 0, MrpPlanner.FIXED_QTY, 10001), false);
        check.due("lot 0 is not 1", x.setItem(0, 0, MrpPlanner.FIXED_QTY, 0), false);
        check.due("9 periods are not 8", x.setItem(0, 0, MrpPlanner.PERIOD_ORDER, 9), false);
        check.due("0 periods are not 1", x.setItem(0, 0, MrpPlanner.PERIOD_ORDER, 0), false);
        check.due("on-hand 100001 is not 100000", x.setOnHand(0, 100001), false);
        check.due("on-hand -1 is not 0", x.setOnHand(0, -1), false);
        check.due("period P is not P-1", x.setReceipt(0, 6, 1), false);
        check.due("receipt 100001 is not 100000", x.setReceipt(0, 0, 100001), false);
        check.due("period -1 is not 0", x.setDemand(0, -1, 1), false);
        check.due("demand -1 is not 0", x.setDemand(0, 0, -1), false);
        check.due("scrap of 0 is not one of 1", x.scrap(0, 0), false);
        check.due("scrap of 100001 is not one of 100000", x.scrap(0, 100001), false);
        check.dueChanged("what is not clamped", before, x);
        gettersDoNotClamp(check, x);
    }

    private static void gettersDoNotClamp(Check check, MrpPlanner x) {
        check.due("getUsage(-1, 1)", x.getUsage(-1, 1), 0);
        check.due("getUsage(2, 4)", x.getUsage(2, 4), 0);
        check.due("getItem(-1, 3)", x.getItem(-1, MrpPlanner.ITEM_ONHAND), 0);
        check.due("getItem(4, 3)", x.getItem(4, MrpPlanner.ITEM_ONHAND), 0);
        check.due("getItem(0, -1)", x.getItem(0, -1), 0);
        check.due("getItem(3, 7)", x.getItem(3, 7), 0);
        check.due("getCell(3, -1, 0)", x.getCell(3, -1, MrpPlanner.CELL_DEMAND), 0);
        check.due("getCell(3, 6, 0)", x.getCell(3, 6, MrpPlanner.CELL_DEMAND), 0);
        check.due("getCell(3, 0, -1)", x.getCell(3, 0, -1), 0);
        check.due("getCell(1, 0, 7)", x.getCell(1, 0, 7), 0);
        check.due("getCount(-1)", x.getCount(-1), 0);
        check.due("getCount(4)", x.getCount(4), 0);
    }

    /** One refused call of each kind, after another, in each state; the promises' own tests try many more. */
    private static void refusedCallsChangeNothing(Check check) {
        for (State state : State.values()) {
            Refusals r = new Refusals(check, state);
            int last = r.items - 1;
            r.due("addComponent out of range", r.x.addComponent(0, r.items, 1), MrpPlanner.ERR_RANGE);
            r.due("addComponent to itself", r.x.addComponent(0, 0, 1), MrpPlanner.ERR_CYCLE);
            r.due("removeComponent without an edge", r.x.removeComponent(last, last), false);
            r.due("setItem", r.x.setItem(last, 9, MrpPlanner.LOT_FOR_LOT, 0), false);
            r.due("setOnHand", r.x.setOnHand(last, 100001), false);
            r.due("setReceipt", r.x.setReceipt(last, r.periods, 1), false);
            r.due("setDemand", r.x.setDemand(last, r.periods, 1), false);
            r.due("scrap", r.x.scrap(last, 0), false);
            r.end();
        }
        Refusals full = new Refusals(check, State.FULL);
        full.due("addComponent to a full bill", full.x.addComponent(14, 15, 1), MrpPlanner.ERR_FULL);
        full.end();
        Refusals cycle = new Refusals(check, State.BUSY);
        cycle.due("addComponent of a cycle", cycle.x.addComponent(3, 0, 1), MrpPlanner.ERR_CYCLE);
        cycle.end();
        Refusals done = new Refusals(check, State.DONE);
        done.due("step() at the end", done.x.step(), MrpPlanner.STEP_DONE);
        done.end();
        Refusals fresh = new Refusals(check, State.FRESH);
        fresh.due("step() without a plan", fresh.x.step(), MrpPlanner.STEP_NO_PLAN);
        fresh.due("scrap without a plan", fresh.x.scrap(0, 1), false);
        fresh.end();
    }
}

import java.util.Map;

public final class Promise04SetItemTest {
    private static final int LOT_FOR_LOT = MrpPlanner.LOT_FOR_LOT;
    private static final int FIXED_QTY = MrpPlanner.FIXED_QTY;
    private static final int PERIOD_ORDER = MrpPlanner.PERIOD_ORDER;

    public static void main(String[] args) {
        Section section = new Section("Promise 4: setItem");
        section.test("Sets the lead time, lot rule and lot parameter of item.",
            Promise04SetItemTest::sets);
        section.test("Answers false, changing nothing, if any of these holds:",
            Promise04SetItemTest::severalAtOnce);
        section.test("item is not in 0..N-1;",
            Promise04SetItemTest::item);
        section.test("lead is not in 0..8;",
            Promise04SetItemTest::lead);
        section.test("rule is not LOT_FOR_LOT, FIXED_QTY or PERIOD_ORDER;",
            Promise04SetItemTest::rule);
        section.test("rule is FIXED_QTY and param is not in 1..10000;",
            check -> param(check, FIXED_QTY, 10000));
        section.test("rule is PERIOD_ORDER and param is not in 1..8.",
            check -> param(check, PERIOD_ORDER, 8));
        section.test("If none of these holds, it stores lead and rule, stores param as the parameter"
                + " (for LOT_FOR_LOT, param is not tested, any int is accepted, and 0 is stored instead),"
                + " discards the plan and answers true.",
            Promise04SetItemTest::stores);
        section.test("On-hand, demands, receipts, edges and the data of other items are unchanged.",
            Promise04SetItemTest::theRestStays);
        section.end();
    }

    private static void accepted(Check check, MrpPlanner x, int item, int lead, int rule, int param) {
        String call = "setItem(" + item + ", " + lead + ", " + rule + ", " + param + ")";
        check.due(call, x.setItem(item, lead, rule, param), true);
        check.due(call + ": LEAD", x.getItem(item, MrpPlanner.ITEM_LEAD), lead);
        check.due(call + ": RULE", x.getItem(item, MrpPlanner.ITEM_RULE), rule);
        check.due(call + ": PARAM", x.getItem(item, MrpPlanner.ITEM_PARAM), rule == LOT_FOR_LOT ? 0 : param);
    }

    private static void sets(Check check) {
        MrpPlanner x = new MrpPlanner(2, 6);
        x.setDemand(1, 3, 25);
        accepted(check, x, 1, 2, FIXED_QTY, 10);
        x.plan();
        check.dueRow(x, 1, MrpPlanner.CELL_RELEASE, 0, 30, 0, 0, 0, 0);
        // The next values replace these, in the answers and in the plan.
        accepted(check, x, 1, 1, LOT_FOR_LOT, 3);
        x.plan();
        check.dueRow(x, 1, MrpPlanner.CELL_RELEASE, 0, 0, 25, 0, 0, 0);
        accepted(check, x, 1, 0, PERIOD_ORDER, 2);
        x.setDemand(1, 4, 6);
        x.plan();
        check.dueRow(x, 1, MrpPlanner.CELL_RELEASE, 0, 0, 0, 31, 0, 0);
    }

    private static void severalAtOnce(Check check) {
        for (State state : State.values()) {
            Refusals r = new Refusals(check, state);
            r.due("all wrong", r.x.setItem(-1, -1, -1, -1), false);
            r.due("all too large", r.x.setItem(r.items, 9, 3, 10001), false);
            r.due("lead and param", r.x.setItem(0, 9, FIXED_QTY, 0), false);
            r.due("rule and param", r.x.setItem(0, 0, 3, 0), false);
            r.due("item and lead", r.x.setItem(r.items, -1, LOT_FOR_LOT, 0), false);
            r.due("param alone", r.x.setItem(0, 8, PERIOD_ORDER, 9), false);
            r.end();
        }
    }

    private static void item(Check check) {
        for (State state : State.values()) {
            Refusals r = new Refusals(check, state);
            for (int bad : Values.outside(0, r.items - 1)) {
                r.due("item " + bad, r.x.setItem(bad, 1, LOT_FOR_LOT, 0), false);
                r.due("item " + bad, r.x.setItem(bad, 1, FIXED_QTY, 5), false);
            }
            r.end();
        }
        for (int items = 1; items <= 16; items++) {
            MrpPlanner x = new MrpPlanner(items, 4);
            accepted(check, x, 0, 1, FIXED_QTY, 5);
            accepted(check, x, items - 1, 2, PERIOD_ORDER, 6);
        }
    }

    private static void lead(Check check) {
        for (State state : State.values()) {
            Refusals r = new Refusals(check, state);
            for (int bad : Values.outside(0, 8)) {
                r.due("lead " + bad, r.x.setItem(0, bad, LOT_FOR_LOT, 0), false);
                r.due("lead " + bad, r.x.setItem(0, bad, FIXED_QTY, 5), false);
                r.due("lead " + bad, r.x.setItem(0, bad, PERIOD_ORDER, 5), false);
            }
            r.end();
        }
        // Also a lead longer than the horizon.
        MrpPlanner x = new MrpPlanner(2, 4);
        for (int lead = 0; lead <= 8; lead++) {
            accepted(check, x, 1, lead, FIXED_QTY, 7);
        }
    }

    private static void rule(Check check) {
        for (State state : State.values()) {
            Refusals r = new Refusals(check, state);
            for (int bad : Values.outside(0, 2)) {
                r.due("rule " + bad + " with 1", r.x.setItem(0, 0, bad, 1), false);
                r.due("rule " + bad + " with 0", r.x.setItem(0, 0, bad, 0), false);
            }
            r.end();
        }
        MrpPlanner x = new MrpPlanner(1, 4);
        for (int rule = 0; rule <= 2; rule++) {
            accepted(check, x, 0, 0, rule, 1);
        }
    }

    private static void param(Check check, int rule, int greatest) {
        for (State state : State.values()) {
            Refusals r = new Refusals(check, state);
            for (int bad : Values.outside(1, greatest)) {
                r.due("rule " + rule + " with " + bad, r.x.setItem(0, 0, rule, bad), false);
            }
            r.end();
        }
        MrpPlanner x = new MrpPlanner(1, 4);
        for (int good : Values.inside(1, greatest)) {
            accepted(check, x, 0, 0, rule, good);
        }
    }

    private static void stores(Check check) {
        int[] anyInt = {0, 1, 5, -1, 8, 9, 10000, 10001, Integer.MIN_VALUE, Integer.MAX_VALUE};
        for (int param : anyInt) {
            MrpPlanner x = State.BUSY.make();
            accepted(check, x, 1, 3, LOT_FOR_LOT, param);
            check.due("CURRENT", x.getCount(MrpPlanner.COUNT_CURRENT), -1);
        }
        for (int rule = 1; rule <= 2; rule++) {
            MrpPlanner x = State.BUSY.make();
            accepted(check, x, 0, 8, rule, 8);
            check.due("CURRENT", x.getCount(MrpPlanner.COUNT_CURRENT), -1);
        }
        // The same values once more discard the plan too.
        MrpPlanner x = State.BUSY.make();
        Map<String, Long> before = Check.answers(x);
        accepted(check, x, 1, 2, FIXED_QTY, 50);
        check.dueDiscarded("setItem with what was there", before, x);
    }

    private static void theRestStays(Check check) {
        for (State state : State.ofFourItems()) {
            for (int item = 0; item < 4; item++) {
                MrpPlanner x = state.make();
                Map<String, Long> before = Check.answers(x);
                before.put("LEAD " + item, 5L);
                before.put("RULE " + item, (long) FIXED_QTY);
                before.put("PARAM " + item, 77L);
                check.due("setItem", x.setItem(item, 5, FIXED_QTY, 77), true);
                check.dueDiscarded(state + ": setItem of " + item, before, x);
            }
        }
    }
}

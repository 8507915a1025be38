public final class Promise12GetItemTest {
    public static void main(String[] args) {
        Section section = new Section("Promise 12: getItem");
        section.test("Answers one value of item, chosen by field: ITEM_LEAD gives the lead, ITEM_RULE the rule"
                + " (one of the lot rule constants), ITEM_PARAM the parameter, ITEM_ONHAND the on-hand,"
                + " ITEM_LEVEL the LEVEL under the current edges, ITEM_PASTDUE the PASTDUE and ITEM_STOCK the STOCK.",
            Promise12GetItemTest::eachField);
        section.test("PASTDUE and STOCK are 0 when there is no plan.",
            Promise12GetItemTest::withoutAPlan);
        section.test("Answers 0 if item is not in 0..N-1 or field is not an ITEM_ constant.",
            Promise12GetItemTest::wrongArguments);
        section.test("Changes nothing.",
            Promise12GetItemTest::changesNothing);
        section.end();
    }

    /** Item 0 lacks 6 in period 1; 1 is short by 24 - 6 + 1 in period 0; 2 by 27 - 7. */
    private static MrpPlanner planned() {
        MrpPlanner x = new MrpPlanner(3, 4);
        x.addComponent(0, 1, 4);
        x.addComponent(1, 2, 1);
        x.setItem(0, 2, MrpPlanner.LOT_FOR_LOT, 77);
        x.setItem(1, 1, MrpPlanner.FIXED_QTY, 9);
        x.setItem(2, 8, MrpPlanner.PERIOD_ORDER, 4);
        x.setOnHand(0, 5);
        x.setOnHand(1, 6);
        x.setOnHand(2, 7);
        x.setDemand(0, 1, 11);
        x.setDemand(1, 0, 1);
        x.plan();
        x.scrap(1, 7);
        return x;
    }

    private static void row(Check check, MrpPlanner x, int item, long... want) {
        for (int field = 0; field < want.length; field++) {
            check.due("getItem(" + item + ", " + field + ")", x.getItem(item, field), want[field]);
        }
    }

    private static void eachField(Check check) {
        MrpPlanner x = planned();
        row(check, x, 0, 2, MrpPlanner.LOT_FOR_LOT, 0, 5, 0, 6, 5);
        row(check, x, 1, 1, MrpPlanner.FIXED_QTY, 9, 6, 1, 27, -1);
        row(check, x, 2, 8, MrpPlanner.PERIOD_ORDER, 4, 7, 2, 20, 7);
        check.due("ITEM_LEAD", x.getItem(2, MrpPlanner.ITEM_LEAD), 8);
        check.due("ITEM_RULE", x.getItem(2, MrpPlanner.ITEM_RULE), 2);
        check.due("ITEM_PARAM", x.getItem(2, MrpPlanner.ITEM_PARAM), 4);
        check.due("ITEM_ONHAND", x.getItem(2, MrpPlanner.ITEM_ONHAND), 7);
        check.due("ITEM_LEVEL", x.getItem(2, MrpPlanner.ITEM_LEVEL), 2);
        check.due("ITEM_PASTDUE", x.getItem(2, MrpPlanner.ITEM_PASTDUE), 20);
        check.due("ITEM_STOCK", x.getItem(2, MrpPlanner.ITEM_STOCK), 7);
        // PASTDUE and STOCK are longs.
        MrpPlanner large = Samples.tenMillionfold();
        large.setItem(10, 8, MrpPlanner.PERIOD_ORDER, 8);
        large.setDemand(0, 1, 100000);
        large.setDemand(0, 0, 1);
        large.plan();
        large.step();
        row(check, large, 10, 8, MrpPlanner.PERIOD_ORDER, 8, 0, 10, 1000010000000L, 1000000000000L);
    }

    private static void withoutAPlan(Check check) {
        MrpPlanner x = planned();
        x.setReceipt(0, 0, 0);
        row(check, x, 0, 2, MrpPlanner.LOT_FOR_LOT, 0, 5, 0, 0, 0);
        row(check, x, 1, 1, MrpPlanner.FIXED_QTY, 9, 6, 1, 0, 0);
        row(check, x, 2, 8, MrpPlanner.PERIOD_ORDER, 4, 7, 2, 0, 0);
        for (State state : State.values()) {
            MrpPlanner y = state.make();
            for (int i = 0; i < y.getCount(MrpPlanner.COUNT_ITEMS) && !state.hasPlan(); i++) {
                check.due(state + ": PASTDUE of " + i, y.getItem(i, MrpPlanner.ITEM_PASTDUE), 0);
                check.due(state + ": STOCK of " + i, y.getItem(i, MrpPlanner.ITEM_STOCK), 0);
            }
        }
    }

    private static void wrongArguments(Check check) {
        for (State state : State.values()) {
            MrpPlanner x = state.make();
            int items = x.getCount(MrpPlanner.COUNT_ITEMS);
            for (int bad : Values.outside(0, items - 1)) {
                for (int field = -1; field <= 7; field++) {
                    check.due(state + ": getItem(" + bad + ", " + field + ")", x.getItem(bad, field), 0);
                }
            }
            for (int bad : Values.outside(0, 6)) {
                for (int item = 0; item < items; item++) {
                    check.due(state + ": getItem(" + item + ", " + bad + ")", x.getItem(item, bad), 0);
                }
                check.due(state + ": getItem(-1, " + bad + ")", x.getItem(-1, bad), 0);
            }
        }
    }

    private static void changesNothing(Check check) {
        for (State state : State.values()) {
            Refusals r = new Refusals(check, state);
            for (int field = -1; field <= 7; field++) {
                long there = r.x.getItem(r.items - 1, field);
                r.due("getItem(N-1, " + field + ")", r.x.getItem(r.items - 1, field), there);
                r.due("getItem(N, " + field + ")", r.x.getItem(r.items, field), 0);
            }
            r.end();
        }
    }
}

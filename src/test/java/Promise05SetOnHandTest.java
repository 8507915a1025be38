import java.util.Map;

public final class Promise05SetOnHandTest {
    public static void main(String[] args) {
        Section section = new Section("Promise 5: setOnHand");
        section.test("Sets the on-hand stock at the start of item.",
            Promise05SetOnHandTest::sets);
        section.test("Answers false, changing nothing, if item is not in 0..N-1 or qty is not in 0..100000.",
            Promise05SetOnHandTest::refuses);
        section.test("Otherwise it stores qty, discards the plan and answers true.",
            Promise05SetOnHandTest::stores);
        section.test("Nothing else changes.",
            Promise05SetOnHandTest::theRestStays);
        section.end();
    }

    private static void sets(Check check) {
        MrpPlanner x = new MrpPlanner(2, 4);
        x.setDemand(0, 1, 30);
        x.setOnHand(0, 20);
        x.setOnHand(0, 12);
        x.plan();
        check.due("STOCK at the start", x.getItem(0, MrpPlanner.ITEM_STOCK), 12);
        check.due("STOCK of the other item", x.getItem(1, MrpPlanner.ITEM_STOCK), 0);
        check.dueRow(x, 0, MrpPlanner.CELL_PROJECTED, 12, 0, 0, 0);
        check.dueRow(x, 0, MrpPlanner.CELL_PLANNED, 0, 18, 0, 0);
    }

    private static void refuses(Check check) {
        for (State state : State.values()) {
            Refusals r = new Refusals(check, state);
            for (int bad : Values.outside(0, r.items - 1)) {
                r.due("item " + bad, r.x.setOnHand(bad, 1), false);
            }
            for (int bad : Values.outside(0, 100000)) {
                r.due("qty " + bad, r.x.setOnHand(r.items - 1, bad), false);
            }
            r.due("both", r.x.setOnHand(-1, -1), false);
            r.end();
        }
    }

    private static void stores(Check check) {
        for (State state : State.values()) {
            for (int qty : Values.inside(0, 100000)) {
                MrpPlanner x = state.make();
                int last = x.getCount(MrpPlanner.COUNT_ITEMS) - 1;
                for (int item : new int[] {0, last}) {
                    String call = state + ": setOnHand(" + item + ", " + qty + ")";
                    x.plan();
                    check.due(call, x.setOnHand(item, qty), true);
                    check.due(call + ": ONHAND", x.getItem(item, MrpPlanner.ITEM_ONHAND), qty);
                    check.due(call + ": CURRENT", x.getCount(MrpPlanner.COUNT_CURRENT), -1);
                    check.due(call + " again", x.setOnHand(item, qty), true);
                }
            }
        }
        // The sample's item 3 has 8 already: the plan goes all the same.
        MrpPlanner x = State.BUSY.make();
        Map<String, Long> before = Check.answers(x);
        check.due("setOnHand(3, 8)", x.setOnHand(3, 8), true);
        check.dueDiscarded("setOnHand(3, 8)", before, x);
    }

    private static void theRestStays(Check check) {
        for (State state : State.values()) {
            MrpPlanner x = state.make();
            for (int item = 0; item < x.getCount(MrpPlanner.COUNT_ITEMS); item++) {
                Map<String, Long> before = Check.answers(x);
                before.put("ONHAND " + item, 70000L + item);
                String call = state + ": setOnHand(" + item + ", " + (70000 + item) + ")";
                check.due(call, x.setOnHand(item, 70000 + item), true);
                check.dueDiscarded(call, before, x);
            }
        }
    }
}

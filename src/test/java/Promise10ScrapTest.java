import java.util.Map;

public final class Promise10ScrapTest {
    private static final int STOCK = MrpPlanner.ITEM_STOCK;

    public static void main(String[] args) {
        Section section = new Section("Promise 10: scrap");
        section.test("Disturbance: qty units of item are lost from STOCK.",
            Promise10ScrapTest::isLost);
        section.test("Answers false, changing nothing, if there is no plan, item is not in 0..N-1,"
                + " or qty is not in 1..100000.",
            Promise10ScrapTest::refuses);
        section.test("Otherwise STOCK of item = STOCK of item - qty (long arithmetic, as Java does it;"
                + " STOCK may become negative), and the call answers true.",
            Promise10ScrapTest::takesAway);
        section.test("This is allowed at any CURRENT from 0 to P.",
            Promise10ScrapTest::atEveryCurrent);
        section.test("The plan itself is not changed and not discarded;"
                + " CURRENT and the STOCK of other items are unchanged.",
            Promise10ScrapTest::theRestStays);
        section.end();
    }

    private static void isLost(Check check) {
        MrpPlanner x = new MrpPlanner(2, 4);
        x.setOnHand(1, 50);
        x.setDemand(1, 1, 45);
        x.plan();
        check.due("scrap(1, 8)", x.scrap(1, 8), true);
        check.due("STOCK", x.getItem(1, STOCK), 42);
        check.due("step() 0", x.step(), 0);
        check.due("step() 1", x.step(), 1);
        check.due("STOCK, never made up for", x.getItem(1, STOCK), -3);
        // It is lost from this execution only: the next plan has the on-hand again.
        check.due("ONHAND", x.getItem(1, MrpPlanner.ITEM_ONHAND), 50);
        x.plan();
        check.due("STOCK of the next plan", x.getItem(1, STOCK), 50);
    }

    private static void refuses(Check check) {
        for (State state : State.values()) {
            Refusals r = new Refusals(check, state);
            for (int bad : Values.outside(0, r.items - 1)) {
                r.due("scrap(" + bad + ", 1)", r.x.scrap(bad, 1), false);
            }
            for (int bad : Values.outside(1, 100000)) {
                r.due("scrap(0, " + bad + ")", r.x.scrap(0, bad), false);
                r.due("scrap of the last, " + bad, r.x.scrap(r.items - 1, bad), false);
            }
            if (!state.hasPlan()) {
                r.due("scrap(0, 1) without a plan", r.x.scrap(0, 1), false);
                r.due("scrap(0, 100000) without a plan", r.x.scrap(0, 100000), false);
            }
            r.end();
        }
    }

    private static void takesAway(Check check) {
        MrpPlanner x = new MrpPlanner(2, 4);
        x.setOnHand(1, 100000);
        x.plan();
        long[][] losses = {{1, 99999}, {99998, 1}, {1, 0}, {1, -1}, {100000, -100001}, {99999, -200000}};
        for (long[] loss : losses) {
            check.due("scrap(1, " + loss[0] + ")", x.scrap(1, (int) loss[0]), true);
            check.due("STOCK", x.getItem(1, STOCK), loss[1]);
        }
        // Below every int, where a stock kept as one would come round to above 0.
        for (int k = 0; k < 50000; k++) {
            x.scrap(1, 100000);
        }
        check.due("STOCK", x.getItem(1, STOCK), -5000200000L);
        check.due("step()", x.step(), 1);
        check.due("STOCK after step()", x.getItem(1, STOCK), -5000200000L);
        check.due("STOCK of the other item", x.getItem(0, STOCK), 0);

        // And down from a stock above every int.
        MrpPlanner large = Samples.tenMillionfold();
        large.setItem(10, 0, MrpPlanner.PERIOD_ORDER, 8);
        large.setDemand(0, 0, 1);
        large.setDemand(0, 1, 100000);
        large.plan();
        large.step();
        check.due("scrap(10, 1)", large.scrap(10, 1), true);
        check.due("STOCK", large.getItem(10, STOCK), 999999999999L);
    }

    private static void atEveryCurrent(Check check) {
        for (int periods : new int[] {4, 16}) {
            MrpPlanner x = new MrpPlanner(3, periods);
            x.plan();
            for (int t = 0; t <= periods; t++) {
                check.due("CURRENT", x.getCount(MrpPlanner.COUNT_CURRENT), t);
                check.due("scrap(2, 5) at " + t, x.scrap(2, 5), true);
                check.due("STOCK at " + t, x.getItem(2, STOCK), -5 * (t + 1));
                x.step();
            }
            check.due("scrap(2, 5) after STEP_DONE", x.scrap(2, 5), true);
        }
    }

    private static void theRestStays(Check check) {
        for (State state : State.values()) {
            if (state.hasPlan()) {
                MrpPlanner x = state.make();
                for (int item = 0; item < x.getCount(MrpPlanner.COUNT_ITEMS); item++) {
                    Map<String, Long> before = Check.answers(x);
                    before.put("STOCK " + item, before.get("STOCK " + item) - 100000);
                    check.due(state + ": scrap of " + item, x.scrap(item, 100000), true);
                    check.dueChanged(state + ": scrap of " + item, before, x);
                }
            }
        }
    }
}

public final class WordsExecutionTest {
    private static final int CURRENT = MrpPlanner.COUNT_CURRENT;
    private static final int STOCK = MrpPlanner.ITEM_STOCK;

    public static void main(String[] args) {
        Section section = new Section("Words used below: Execution");
        section.test("After a plan succeeds, CURRENT = 0 and STOCK of each item = its on-hand.",
            WordsExecutionTest::startsWithTheOnHand);
        section.test("Each step() executes period CURRENT and then adds 1 to CURRENT.",
            WordsExecutionTest::onePeriodAtATime);
        section.end();
    }

    private static void startsWithTheOnHand(Check check) {
        MrpPlanner x = new MrpPlanner(16, 4);
        for (int i = 0; i < 16; i++) {
            x.setOnHand(i, i == 0 ? 0 : 99985 + i);
        }
        // The demand and the receipt of period 0 do not count before the first step.
        x.setDemand(2, 0, 100000);
        x.setReceipt(3, 0, 100000);
        check.due("plan()", x.plan(), MrpPlanner.OK);
        check.due("CURRENT", x.getCount(CURRENT), 0);
        for (int i = 0; i < 16; i++) {
            check.due("STOCK of " + i, x.getItem(i, STOCK), i == 0 ? 0 : 99985 + i);
        }
    }

    private static void onePeriodAtATime(Check check) {
        MrpPlanner x = new MrpPlanner(2, 4);
        for (int t = 0; t < 4; t++) {
            x.setReceipt(0, t, 1 << t);
            x.setReceipt(1, t, 100 << t);
        }
        x.plan();
        for (int t = 0; t < 4; t++) {
            check.due("CURRENT before step " + t, x.getCount(CURRENT), t);
            check.due("STOCK of 0 before step " + t, x.getItem(0, STOCK), (1 << t) - 1);
            check.due("STOCK of 1 before step " + t, x.getItem(1, STOCK), (100 << t) - 100);
            check.due("step() " + t, x.step(), 0);
        }
        check.due("CURRENT at the end", x.getCount(CURRENT), 4);
        check.due("STOCK of 0 at the end", x.getItem(0, STOCK), 15);
        check.due("STOCK of 1 at the end", x.getItem(1, STOCK), 1500);
    }
}

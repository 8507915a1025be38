import java.util.Map;

public final class Promise10ScrapTest {
    private static final int STOCK = MrpPlanner.ITEM_STOCK;

    public static void main(String[] args) {
        Check check = new Check();
        withoutAPlan(check);
        refusals(check);
        atEveryCurrent(check);
        edges(check);
        manyTimes(check);
        check.end();
    }

    private static void refused(Check check, MrpPlanner x, int item, int qty) {
        String call = "scrap(" + item + ", " + qty + ")";
        Map<String, Long> before = Check.answers(x);
        check.due(call, x.scrap(item, qty), false);
        check.dueChanged(call, before, x);
    }

    private static void withoutAPlan(Check check) {
        refused(check, new MrpPlanner(2, 4), 0, 1);
        MrpPlanner x = Samples.busy();
        x.setOnHand(0, 3);
        refused(check, x, 0, 1);
        // A refused scrap must not show up in the next plan either.
        x.plan();
        check.due("STOCK of the next plan", x.getItem(0, STOCK), 3);
    }

    private static void refusals(Check check) {
        MrpPlanner x = Samples.busy();
        for (int bad : new int[] {-1, 4, 16, Integer.MIN_VALUE, Integer.MAX_VALUE}) {
            refused(check, x, bad, 1);
        }
        for (int bad : new int[] {0, -1, 100001, Integer.MIN_VALUE, Integer.MAX_VALUE}) {
            refused(check, x, 1, bad);
        }
    }

    private static void atEveryCurrent(Check check) {
        MrpPlanner x = Samples.busy();
        x.plan();
        for (int t = 0; t <= 6; t++) {
            Map<String, Long> before = Check.answers(x);
            check.due("scrap(3, 2) at " + t, x.scrap(3, 2), true);
            before.put("STOCK 3", before.get("STOCK 3") - 2);
            check.dueChanged("scrap(3, 2) at " + t, before, x);
            x.step();
        }
    }

    private static void edges(Check check) {
        MrpPlanner x = new MrpPlanner(2, 4);
        x.setOnHand(1, 100000);
        x.plan();
        check.due("scrap(1, 1)", x.scrap(1, 1), true);
        check.due("STOCK", x.getItem(1, STOCK), 99999);
        check.due("scrap(1, 99999)", x.scrap(1, 99999), true);
        check.due("STOCK", x.getItem(1, STOCK), 0);
        check.due("scrap(1, 100000)", x.scrap(1, 100000), true);
        check.due("STOCK", x.getItem(1, STOCK), -100000);
        check.due("ONHAND", x.getItem(1, MrpPlanner.ITEM_ONHAND), 100000);
    }

    private static void manyTimes(Check check) {
        MrpPlanner x = new MrpPlanner(1, 4);
        x.plan();
        for (int k = 0; k < 50000; k++) {
            x.scrap(0, 100000);
        }
        check.due("STOCK below every int", x.getItem(0, STOCK), -5000000000L);
        check.due("step()", x.step(), 1);
    }
}

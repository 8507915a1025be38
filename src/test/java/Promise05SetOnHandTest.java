import java.util.Map;

public final class Promise05SetOnHandTest {
    public static void main(String[] args) {
        Check check = new Check();
        MrpPlanner x = Samples.busy();
        for (int bad : new int[] {-1, 4, 16, Integer.MIN_VALUE, Integer.MAX_VALUE}) {
            refused(check, x, bad, 1);
        }
        for (int bad : new int[] {-1, 100001, Integer.MIN_VALUE, Integer.MAX_VALUE}) {
            refused(check, x, 3, bad);
        }
        for (int qty : new int[] {0, 1, 99999, 100000}) {
            stored(check, 0, qty, "ONHAND 0");
            stored(check, 3, qty, "ONHAND 3");
        }
        // The sample's item 3 has 8 already.
        stored(check, 3, 8);
        stockFollows(check);
        check.end();
    }

    private static void refused(Check check, MrpPlanner x, int item, int qty) {
        String call = "setOnHand(" + item + ", " + qty + ")";
        Map<String, Long> before = Check.answers(x);
        check.due(call, x.setOnHand(item, qty), false);
        check.dueChanged(call, before, x);
    }

    private static void stored(Check check, int item, int qty, String... changed) {
        MrpPlanner x = Samples.busy();
        String call = "setOnHand(" + item + ", " + qty + ")";
        Map<String, Long> before = Check.answers(x);
        check.due(call, x.setOnHand(item, qty), true);
        check.dueDiscarded(call, before, x, changed);
        check.due(call + ": ONHAND", x.getItem(item, MrpPlanner.ITEM_ONHAND), qty);
    }

    private static void stockFollows(Check check) {
        MrpPlanner x = new MrpPlanner(1, 4);
        x.setDemand(0, 1, 30);
        x.setOnHand(0, 20);
        x.setOnHand(0, 12);
        x.plan();
        check.due("STOCK at the start", x.getItem(0, MrpPlanner.ITEM_STOCK), 12);
        check.dueRow(x, 0, MrpPlanner.CELL_PROJECTED, 12, 0, 0, 0);
        check.dueRow(x, 0, MrpPlanner.CELL_PLANNED, 0, 18, 0, 0);
    }
}

import java.util.Map;

public final class Promise12GetItemTest {
    public static void main(String[] args) {
        Check check = new Check();
        MrpPlanner x = planned();
        Map<String, Long> before = Check.answers(x);
        row(check, x, 0, 2, MrpPlanner.LOT_FOR_LOT, 0, 5, 0, 6, 5);
        row(check, x, 1, 1, MrpPlanner.FIXED_QTY, 9, 6, 1, 27, -1);
        row(check, x, 2, 8, MrpPlanner.PERIOD_ORDER, 4, 7, 2, 20, 7);
        wrongArguments(check, x);
        check.dueChanged("getItem", before, x);

        // Without a plan the data stay and the plan answers are 0.
        x.setReceipt(0, 0, 0);
        row(check, x, 0, 2, MrpPlanner.LOT_FOR_LOT, 0, 5, 0, 0, 0);
        row(check, x, 1, 1, MrpPlanner.FIXED_QTY, 9, 6, 1, 0, 0);
        row(check, x, 2, 8, MrpPlanner.PERIOD_ORDER, 4, 7, 2, 0, 0);
        check.end();
    }

    /** Item 0 lacks 6 in period 1; 1 is short by 24 - 6 in period 0; 2 by 27 - 7. */
    private static MrpPlanner planned() {
        MrpPlanner x = new MrpPlanner(3, 4);
        x.addComponent(0, 1, 4);
        x.addComponent(1, 2, 1);
        x.setItem(0, 2, MrpPlanner.LOT_FOR_LOT, 77);
        x.setItem(1, 1, MrpPlanner.FIXED_QTY, 9);
        x.setItem(2, 8, MrpPlanner.PERIOD_ORDER, 4);
        x.setOnHand(0, 5);
        x.setOnHand(1, 6);
        x.setOnHand(2, 7);
        x.setDemand(0, 1, 11);
        x.setDemand(1, 0, 1);
        x.plan();
        x.scrap(1, 7);
        return x;
    }

    private static void row(Check check, MrpPlanner x, int item, long... want) {
        for (int field = 0; field < want.length; field++) {
            check.due("getItem(" + item + ", " + field + ")", x.getItem(item, field), want[field]);
        }
    }

    private static void wrongArguments(Check check, MrpPlanner x) {
        for (int bad : new int[] {-1, 3, 16, Integer.MIN_VALUE, Integer.MAX_VALUE}) {
            for (int field = -1; field < 8; field++) {
                check.due("getItem(" + bad + ", " + field + ")", x.getItem(bad, field), 0);
            }
        }
        for (int bad : new int[] {-1, 7, 8, Integer.MIN_VALUE, Integer.MAX_VALUE}) {
            for (int item = 0; item < 3; item++) {
                check.due("getItem(" + item + ", " + bad + ")", x.getItem(item, bad), 0);
            }
        }
    }
}

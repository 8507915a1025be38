import java.util.Map;

public final class Promise04SetItemTest {
    public static void main(String[] args) {
        Check check = new Check();
        refusals(check);
        leads(check);
        lotForLot(check);
        params(check, MrpPlanner.FIXED_QTY, 1, 2, 9, 9999, 10000);
        params(check, MrpPlanner.PERIOD_ORDER, 1, 2, 7, 8);
        sameValues(check);
        check.end();
    }

    private static void refused(Check check, MrpPlanner x, int item, int lead, int rule, int param) {
        String call = "setItem(" + item + ", " + lead + ", " + rule + ", " + param + ")";
        Map<String, Long> before = Check.answers(x);
        check.due(call, x.setItem(item, lead, rule, param), false);
        check.dueChanged(call, before, x);
    }

    private static void refusals(Check check) {
        MrpPlanner x = Samples.busy();
        for (int bad : new int[] {-1, 4, 16, Integer.MIN_VALUE, Integer.MAX_VALUE}) {
            refused(check, x, bad, 0, MrpPlanner.LOT_FOR_LOT, 0);
        }
        for (int bad : new int[] {-1, 9, 100, Integer.MIN_VALUE, Integer.MAX_VALUE}) {
            refused(check, x, 0, bad, MrpPlanner.LOT_FOR_LOT, 0);
            refused(check, x, 0, bad, MrpPlanner.FIXED_QTY, 7);
        }
        for (int bad : new int[] {-1, 3, 4, Integer.MIN_VALUE, Integer.MAX_VALUE}) {
            refused(check, x, 0, 0, bad, 1);
            refused(check, x, 0, 0, bad, 0);
        }
        for (int bad : new int[] {0, -1, 10001, Integer.MIN_VALUE, Integer.MAX_VALUE}) {
            refused(check, x, 0, 0, MrpPlanner.FIXED_QTY, bad);
        }
        for (int bad : new int[] {0, -1, 9, 10000, Integer.MIN_VALUE, Integer.MAX_VALUE}) {
            refused(check, x, 0, 0, MrpPlanner.PERIOD_ORDER, bad);
        }
    }

    private static void holds(Check check, MrpPlanner x, int item, long lead, long rule, long param) {
        check.due("LEAD of " + item, x.getItem(item, MrpPlanner.ITEM_LEAD), lead);
        check.due("RULE of " + item, x.getItem(item, MrpPlanner.ITEM_RULE), rule);
        check.due("PARAM of " + item, x.getItem(item, MrpPlanner.ITEM_PARAM), param);
    }

    private static void leads(Check check) {
        for (int lead = 0; lead <= 8; lead++) {
            MrpPlanner x = new MrpPlanner(2, 4);
            check.due("setItem with lead " + lead, x.setItem(1, lead, MrpPlanner.FIXED_QTY, 7), true);
            holds(check, x, 1, lead, MrpPlanner.FIXED_QTY, 7);
            holds(check, x, 0, 0, MrpPlanner.LOT_FOR_LOT, 0);
        }
    }

    private static void lotForLot(Check check) {
        for (int param : new int[] {0, 1, 5, -1, 10001, Integer.MIN_VALUE, Integer.MAX_VALUE}) {
            MrpPlanner x = Samples.busy();
            Map<String, Long> before = Check.answers(x);
            check.due("LOT_FOR_LOT with " + param, x.setItem(1, 3, MrpPlanner.LOT_FOR_LOT, param), true);
            check.dueDiscarded("LOT_FOR_LOT with " + param, before, x, "LEAD 1", "RULE 1", "PARAM 1");
            holds(check, x, 1, 3, MrpPlanner.LOT_FOR_LOT, 0);
        }
    }

    private static void params(Check check, int rule, int... good) {
        for (int param : good) {
            MrpPlanner x = Samples.busy();
            Map<String, Long> before = Check.answers(x);
            check.due("rule " + rule + " with " + param, x.setItem(3, 4, rule, param), true);
            check.dueDiscarded("rule " + rule + " with " + param, before, x, "LEAD 3", "RULE 3", "PARAM 3");
            holds(check, x, 3, 4, rule, param);
        }
    }

    private static void sameValues(Check check) {
        MrpPlanner x = Samples.busy();
        Map<String, Long> before = Check.answers(x);
        check.due("setItem with what was there", x.setItem(1, 2, MrpPlanner.FIXED_QTY, 50), true);
        check.dueDiscarded("setItem with what was there", before, x);
    }
}

public final class WordsItemDataTest {
    public static void main(String[] args) {
        Section section = new Section("Words used below: Item data");
        section.test("For each item: a lead time L (0..8), a lot rule (LOT_FOR_LOT, FIXED_QTY or PERIOD_ORDER),"
                + " a lot parameter, an on-hand stock H at the start (0..100000), and for each period t"
                + " an external demand D[t] (0..100000) and a scheduled receipt S[t] (0..100000).",
            WordsItemDataTest::eachItemHoldsItsOwn);
        section.end();
    }

    private static void eachItemHoldsItsOwn(Check check) {
        MrpPlanner x = new MrpPlanner(16, 16);
        // All are stored before any is read, so that a place used twice shows.
        for (int i = 0; i < 16; i++) {
            x.setItem(i, lead(i), rule(i), param(i));
            x.setOnHand(i, onHand(i));
            for (int t = 0; t < 16; t++) {
                x.setDemand(i, t, demand(i, t));
                x.setReceipt(i, t, receipt(i, t));
            }
        }
        beyondTheRanges(check, x);
        for (int i = 0; i < 16; i++) {
            check.due("LEAD of " + i, x.getItem(i, MrpPlanner.ITEM_LEAD), lead(i));
            check.due("RULE of " + i, x.getItem(i, MrpPlanner.ITEM_RULE), rule(i));
            check.due("PARAM of " + i, x.getItem(i, MrpPlanner.ITEM_PARAM), param(i));
            check.due("ONHAND of " + i, x.getItem(i, MrpPlanner.ITEM_ONHAND), onHand(i));
            for (int t = 0; t < 16; t++) {
                String cell = " of " + i + " in " + t;
                check.due("DEMAND" + cell, x.getCell(i, t, MrpPlanner.CELL_DEMAND), demand(i, t));
                check.due("RECEIPT" + cell, x.getCell(i, t, MrpPlanner.CELL_RECEIPT), receipt(i, t));
            }
        }
    }

    /** What no range has is refused, so none of it shows up later. */
    private static void beyondTheRanges(Check check, MrpPlanner x) {
        for (int i = 0; i < 16; i++) {
            check.due("lead -1", x.setItem(i, -1, MrpPlanner.LOT_FOR_LOT, 0), false);
            check.due("lead 9", x.setItem(i, 9, MrpPlanner.LOT_FOR_LOT, 0), false);
            check.due("rule -1", x.setItem(i, 0, -1, 1), false);
            check.due("rule 3", x.setItem(i, 0, 3, 1), false);
            for (int qty : Values.outside(0, 100000)) {
                check.due("on-hand " + qty, x.setOnHand(i, qty), false);
                check.due("demand " + qty, x.setDemand(i, i, qty), false);
                check.due("receipt " + qty, x.setReceipt(i, i, qty), false);
            }
        }
    }

    private static int lead(int item) {
        return item % 9;
    }

    private static int rule(int item) {
        return item % 3;
    }

    private static int param(int item) {
        int[] byRule = {0, 10000 - item, 1 + item % 8};
        return byRule[rule(item)];
    }

    private static int onHand(int item) {
        return item == 0 ? 0 : 100000 - 15 + item;
    }

    private static int demand(int item, int period) {
        return 100000 - 16 * item - period;
    }

    private static int receipt(int item, int period) {
        return 16 * item + period;
    }
}

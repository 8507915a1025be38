import java.util.Map;

public final class Promise08PlanTest {
    private static final int GROSS = MrpPlanner.CELL_GROSS;
    private static final int NET = MrpPlanner.CELL_NET;
    private static final int PLANNED = MrpPlanner.CELL_PLANNED;
    private static final int RELEASE = MrpPlanner.CELL_RELEASE;
    private static final int PROJECTED = MrpPlanner.CELL_PROJECTED;

    public static void main(String[] args) {
        Check check = new Check();
        lotForLot(check);
        fixedQty(check);
        fixedQtyEdges(check);
        periodOrder(check);
        periodOrderTakesTheWorstPoint(check);
        periodOrderEndsAtTheHorizon(check);
        periodOrderOfOne(check);
        leadAndPastDue(check);
        longestLead(check);
        explosion(check);
        parentWithAHigherNumber(check);
        emptyPlan(check);
        limitItself(check);
        aboveTheLimit(check);
        aboveTheLimitInTheMiddle(check);
        onlyGrossIsLimited(check);
        again(check);
        check.end();
    }

    private static MrpPlanner oneItem(int lead, int rule, int param, int... demands) {
        MrpPlanner x = new MrpPlanner(1, demands.length);
        x.setItem(0, lead, rule, param);
        for (int t = 0; t < demands.length; t++) {
            x.setDemand(0, t, demands[t]);
        }
        return x;
    }

    private static void planned(Check check, MrpPlanner x) {
        check.due("plan()", x.plan(), MrpPlanner.OK);
        check.due("CURRENT after plan()", x.getCount(MrpPlanner.COUNT_CURRENT), 0);
    }

    private static void lotForLot(Check check) {
        MrpPlanner x = oneItem(0, MrpPlanner.LOT_FOR_LOT, 0, 10, 0, 30, 5);
        x.setOnHand(0, 4);
        x.setReceipt(0, 1, 12);
        x.setReceipt(0, 3, 5);
        planned(check, x);
        check.dueRow(x, 0, GROSS, 10, 0, 30, 5);
        check.dueRow(x, 0, NET, 6, 0, 18, 0);
        check.dueRow(x, 0, PLANNED, 6, 0, 18, 0);
        check.dueRow(x, 0, RELEASE, 6, 0, 18, 0);
        check.dueRow(x, 0, PROJECTED, 0, 12, 0, 0);
        check.due("PASTDUE", x.getItem(0, MrpPlanner.ITEM_PASTDUE), 0);
        check.due("STOCK", x.getItem(0, MrpPlanner.ITEM_STOCK), 4);
    }

    private static void fixedQty(Check check) {
        MrpPlanner x = oneItem(0, MrpPlanner.FIXED_QTY, 40, 50, 20, 90, 0);
        x.setOnHand(0, 8);
        planned(check, x);
        check.dueRow(x, 0, NET, 42, 0, 72, 0);
        check.dueRow(x, 0, PLANNED, 80, 0, 80, 0);
        check.dueRow(x, 0, PROJECTED, 38, 18, 8, 8);
    }

    private static void fixedQtyEdges(Check check) {
        // A NET of just k lots, of one less and of one more, and the least and greatest lots.
        MrpPlanner x = oneItem(0, MrpPlanner.FIXED_QTY, 10, 30, 29, 22, 0);
        planned(check, x);
        check.dueRow(x, 0, NET, 30, 29, 21, 0);
        check.dueRow(x, 0, PLANNED, 30, 30, 30, 0);
        check.dueRow(x, 0, PROJECTED, 0, 1, 9, 9);

        x = oneItem(0, MrpPlanner.FIXED_QTY, 1, 3, 0, 100000, 1);
        planned(check, x);
        check.dueRow(x, 0, PLANNED, 3, 0, 100000, 1);

        x = oneItem(0, MrpPlanner.FIXED_QTY, 10000, 1, 9999, 1, 100000);
        planned(check, x);
        check.dueRow(x, 0, PLANNED, 10000, 0, 10000, 100000);
        check.dueRow(x, 0, PROJECTED, 9999, 0, 9999, 9999);
    }

    private static void periodOrder(Check check) {
        MrpPlanner x = oneItem(0, MrpPlanner.PERIOD_ORDER, 3, 0, 10, 20, 30, 40, 50, 60, 70);
        x.setOnHand(0, 4);
        x.setReceipt(0, 3, 5);
        planned(check, x);
        check.dueRow(x, 0, NET, 0, 6, 0, 0, 40, 0, 0, 70);
        check.dueRow(x, 0, PLANNED, 0, 51, 0, 0, 150, 0, 0, 70);
        check.dueRow(x, 0, PROJECTED, 4, 45, 25, 0, 110, 60, 0, 0);
    }

    private static void periodOrderTakesTheWorstPoint(Check check) {
        // The receipt in period 2 makes the whole sum smaller than the sum up to period 1.
        MrpPlanner x = oneItem(0, MrpPlanner.PERIOD_ORDER, 4, 10, 25, 5, 40);
        x.setReceipt(0, 2, 100);
        planned(check, x);
        check.dueRow(x, 0, PLANNED, 35, 0, 0, 0);
        check.dueRow(x, 0, PROJECTED, 25, 0, 95, 55);

        // And here the receipt in period 1 leaves period 0 itself as the worst point.
        x = oneItem(0, MrpPlanner.PERIOD_ORDER, 2, 10, 5, 0, 0);
        x.setReceipt(0, 1, 50);
        planned(check, x);
        check.dueRow(x, 0, PLANNED, 10, 0, 0, 0);
        check.dueRow(x, 0, PROJECTED, 0, 45, 45, 45);
    }

    private static void periodOrderEndsAtTheHorizon(Check check) {
        MrpPlanner x = oneItem(0, MrpPlanner.PERIOD_ORDER, 8, 0, 0, 7, 9);
        planned(check, x);
        check.dueRow(x, 0, PLANNED, 0, 0, 16, 0);
        check.dueRow(x, 0, PROJECTED, 0, 0, 9, 0);

        // The numbers of another item, planned before, must not leak in behind the last period.
        MrpPlanner two = new MrpPlanner(2, 16);
        two.addComponent(1, 0, 1);
        two.setItem(0, 0, MrpPlanner.PERIOD_ORDER, 8);
        two.setDemand(0, 15, 3);
        two.setDemand(1, 0, 1000);
        planned(check, two);
        check.due("PLANNED in the last period", two.getCell(0, 15, PLANNED), 3);
    }

    private static void periodOrderOfOne(Check check) {
        MrpPlanner x = oneItem(0, MrpPlanner.PERIOD_ORDER, 1, 3, 0, 8, 2);
        planned(check, x);
        check.dueRow(x, 0, PLANNED, 3, 0, 8, 2);
    }

    private static void leadAndPastDue(Check check) {
        MrpPlanner x = oneItem(2, MrpPlanner.LOT_FOR_LOT, 0, 1, 20, 300, 4000, 50000);
        planned(check, x);
        check.dueRow(x, 0, PLANNED, 1, 20, 300, 4000, 50000);
        check.dueRow(x, 0, RELEASE, 321, 4000, 50000, 0, 0);
        // The lot of period 2 is released in period 0 in time: it is not past due.
        check.due("PASTDUE", x.getItem(0, MrpPlanner.ITEM_PASTDUE), 21);
    }

    private static void longestLead(Check check) {
        MrpPlanner x = oneItem(8, MrpPlanner.LOT_FOR_LOT, 0, 0, 0, 5, 7);
        planned(check, x);
        check.dueRow(x, 0, RELEASE, 12, 0, 0, 0);
        check.due("PASTDUE", x.getItem(0, MrpPlanner.ITEM_PASTDUE), 12);

        x = oneItem(8, MrpPlanner.LOT_FOR_LOT, 0, 0, 0, 0, 0, 0, 0, 0, 1, 2, 4);
        planned(check, x);
        check.dueRow(x, 0, RELEASE, 3, 4, 0, 0, 0, 0, 0, 0, 0, 0);
        check.due("PASTDUE", x.getItem(0, MrpPlanner.ITEM_PASTDUE), 1);
    }

    private static void explosion(Check check) {
        // 3 is used by 0 itself and by 1 and 2: it waits for both of them.
        MrpPlanner x = new MrpPlanner(4, 4);
        x.addComponent(0, 1, 2);
        x.addComponent(0, 2, 3);
        x.addComponent(1, 3, 5);
        x.addComponent(2, 3, 7);
        x.addComponent(0, 3, 9);
        x.setItem(0, 1, MrpPlanner.LOT_FOR_LOT, 0);
        x.setItem(1, 1, MrpPlanner.FIXED_QTY, 25);
        x.setDemand(0, 3, 10);
        x.setDemand(3, 2, 6);
        planned(check, x);
        check.dueRow(x, 0, RELEASE, 0, 0, 10, 0);
        check.dueRow(x, 1, GROSS, 0, 0, 20, 0);
        check.dueRow(x, 1, RELEASE, 0, 25, 0, 0);
        check.dueRow(x, 2, GROSS, 0, 0, 30, 0);
        check.dueRow(x, 2, RELEASE, 0, 0, 30, 0);
        check.dueRow(x, 3, GROSS, 0, 5 * 25, 6 + 7 * 30 + 9 * 10, 0);
        check.due("PROJECTED of 1", x.getCell(1, 3, PROJECTED), 5);
    }

    private static void parentWithAHigherNumber(Check check) {
        MrpPlanner x = new MrpPlanner(3, 4);
        x.addComponent(2, 1, 2);
        x.addComponent(1, 0, 3);
        x.setDemand(2, 1, 4);
        planned(check, x);
        check.dueRow(x, 0, GROSS, 0, 24, 0, 0);

        // Another plan with other data must not use releases of the first one.
        x.setDemand(2, 1, 0);
        x.setDemand(2, 3, 5);
        x.removeComponent(1, 0);
        x.addComponent(0, 1, 1);
        planned(check, x);
        check.dueRow(x, 0, GROSS, 0, 0, 0, 0);
        check.dueRow(x, 1, GROSS, 0, 0, 0, 10);
    }

    private static void emptyPlan(Check check) {
        MrpPlanner x = new MrpPlanner(3, 4);
        Map<String, Long> before = Check.answers(x);
        check.due("plan() of nothing", x.plan(), MrpPlanner.OK);
        check.dueChanged("plan() of nothing", before, x, "CURRENT");
    }

    private static void limitItself(Check check) {
        MrpPlanner x = Samples.tenMillionfold();
        x.setDemand(0, 15, 100000);
        planned(check, x);
        check.due("GROSS at LIMIT", x.getCell(10, 15, GROSS), MrpPlanner.LIMIT);
        check.due("PLANNED at LIMIT", x.getCell(10, 15, PLANNED), 1000000000000L);
    }

    private static void tooLarge(Check check, MrpPlanner x) {
        Map<String, Long> before = Check.answers(x);
        check.due("plan()", x.plan(), MrpPlanner.PLAN_TOO_LARGE);
        check.dueDiscarded("a plan too large", before, x);
        check.due("step()", x.step(), MrpPlanner.STEP_NO_PLAN);
        check.due("scrap(0, 1)", x.scrap(0, 1), false);
    }

    private static void aboveTheLimit(Check check) {
        for (int period = 0; period < 16; period++) {
            MrpPlanner x = Samples.tenMillionfold();
            x.setDemand(0, period, 100000);
            planned(check, x);
            x.step();
            // One unit above LIMIT, and all of the old plan must be gone.
            x.setDemand(10, period, 1);
            tooLarge(check, x);
            tooLarge(check, x);
            x.setDemand(10, period, 0);
            planned(check, x);
            check.due("GROSS once more", x.getCell(10, period, GROSS), MrpPlanner.LIMIT);
        }
    }

    private static void aboveTheLimitInTheMiddle(Check check) {
        // 9^8 * 100000 is above LIMIT: item 8 fails, and three more items stand below it.
        MrpPlanner x = new MrpPlanner(12, 4);
        for (int i = 0; i < 11; i++) {
            x.addComponent(i, i + 1, 9);
        }
        x.setOnHand(11, 100000);
        x.setDemand(0, 0, 100000);
        tooLarge(check, x);
        x.setDemand(0, 0, 1);
        planned(check, x);
        check.due("GROSS of 11", x.getCell(11, 0, GROSS), 31381059609L);
    }

    private static void onlyGrossIsLimited(Check check) {
        MrpPlanner x = Samples.tenMillionfold();
        x.setItem(10, 8, MrpPlanner.PERIOD_ORDER, 8);
        for (int t = 0; t < 16; t++) {
            x.setDemand(0, t, 100000);
        }
        planned(check, x);
        check.due("PLANNED in 0", x.getCell(10, 0, PLANNED), 8 * MrpPlanner.LIMIT);
        check.due("PLANNED in 8", x.getCell(10, 8, PLANNED), 8 * MrpPlanner.LIMIT);
        check.due("RELEASE in 0", x.getCell(10, 0, RELEASE), 16 * MrpPlanner.LIMIT);
        check.due("PASTDUE", x.getItem(10, MrpPlanner.ITEM_PASTDUE), 8 * MrpPlanner.LIMIT);
        check.due("PROJECTED in 0", x.getCell(10, 0, PROJECTED), 7 * MrpPlanner.LIMIT);
    }

    private static void again(Check check) {
        MrpPlanner x = Samples.busy();
        planned(check, x);
        Map<String, Long> first = Check.answers(x);
        check.due("STOCK of 2", x.getItem(2, MrpPlanner.ITEM_STOCK), 7);
        x.step();
        x.step();
        x.scrap(1, 3);
        planned(check, x);
        check.dueChanged("plan() again", first, x);
        x.setDemand(0, 0, 99);
        x.setDemand(0, 0, 10);
        planned(check, x);
        check.dueChanged("plan() after an edit taken back", first, x);
    }
}

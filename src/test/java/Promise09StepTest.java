import java.util.Map;

public final class Promise09StepTest {
    private static final int STOCK = MrpPlanner.ITEM_STOCK;

    public static void main(String[] args) {
        Check check = new Check();
        withoutAPlan(check);
        undisturbed(check);
        done(check);
        disturbed(check);
        zeroIsNotBelow(check);
        everyItemCounts(check);
        check.end();
    }

    private static void withoutAPlan(Check check) {
        MrpPlanner x = new MrpPlanner(3, 4);
        Map<String, Long> before = Check.answers(x);
        check.due("step() of a new object", x.step(), MrpPlanner.STEP_NO_PLAN);
        check.dueChanged("step() of a new object", before, x);

        x = Samples.busy();
        x.setDemand(0, 0, 1);
        before = Check.answers(x);
        check.due("step() after an edit", x.step(), MrpPlanner.STEP_NO_PLAN);
        check.dueChanged("step() after an edit", before, x);
    }

    private static void undisturbed(Check check) {
        MrpPlanner x = Samples.busy();
        x.plan();
        for (int i = 0; i < 4; i++) {
            check.due("STOCK of " + i + " at the start", x.getItem(i, STOCK), 5 + i);
        }
        for (int t = 0; t < 6; t++) {
            Map<String, Long> before = Check.answers(x);
            check.due("step() " + t, x.step(), 0);
            before.put("CURRENT", t + 1L);
            for (int i = 0; i < 4; i++) {
                before.put("STOCK " + i, x.getCell(i, t, MrpPlanner.CELL_PROJECTED));
            }
            check.dueChanged("step() " + t, before, x);
        }
    }

    private static void done(Check check) {
        MrpPlanner x = Samples.busy();
        for (int t = 1; t < 6; t++) {
            x.step();
        }
        Map<String, Long> before = Check.answers(x);
        check.due("CURRENT at the end", x.getCount(MrpPlanner.COUNT_CURRENT), 6);
        check.due("step() at the end", x.step(), MrpPlanner.STEP_DONE);
        check.due("step() at the end, again", x.step(), MrpPlanner.STEP_DONE);
        check.dueChanged("step() at the end", before, x);
        x.plan();
        check.due("step() of a new plan", x.step(), 0);
    }

    private static void disturbed(Check check) {
        MrpPlanner x = new MrpPlanner(2, 4);
        x.addComponent(0, 1, 3);
        x.setOnHand(1, 100);
        x.setDemand(0, 1, 10);
        x.setDemand(1, 1, 5);
        x.setReceipt(1, 2, 20);
        x.setItem(1, 0, MrpPlanner.LOT_FOR_LOT, 0);
        x.plan();
        x.scrap(1, 80);
        check.due("step() 0", x.step(), 0);
        check.due("STOCK of 1 after 0", x.getItem(1, STOCK), 20);
        // The demand of 5 and three for each of the ten released.
        check.due("step() 1", x.step(), 1);
        check.due("STOCK of 1 after 1", x.getItem(1, STOCK), -15);
        check.due("STOCK of 0 after 1", x.getItem(0, STOCK), 0);
        check.due("step() 2", x.step(), 0);
        check.due("STOCK of 1 after 2", x.getItem(1, STOCK), 5);
        check.due("step() 3", x.step(), 0);
    }

    private static void zeroIsNotBelow(Check check) {
        MrpPlanner x = new MrpPlanner(1, 4);
        x.setOnHand(0, 10);
        x.plan();
        x.scrap(0, 10);
        check.due("step() with STOCK 0", x.step(), 0);
        x.scrap(0, 1);
        check.due("step() with STOCK -1", x.step(), 1);
        check.due("step() with STOCK -1 still", x.step(), 1);
    }

    private static void everyItemCounts(Check check) {
        MrpPlanner x = new MrpPlanner(16, 4);
        for (int below = 0; below <= 16; below++) {
            x.plan();
            for (int k = 0; k < below; k++) {
                x.scrap(15 - k, 1);
            }
            check.due("step() with " + below + " items below 0", x.step(), below);
        }
    }
}

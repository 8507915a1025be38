import java.util.Map;

public final class Promise02AddComponentTest {
    public static void main(String[] args) {
        Check check = new Check();
        range(check);
        selfEdge(check);
        newEdge(check);
        oldEdge(check);
        fullBill(check);
        longChain(check);
        notEveryShapeIsACycle(check);
        levels(check);
        check.end();
    }

    private static void refused(Check check, MrpPlanner x, int parent, int child, int usage, int want) {
        String call = "addComponent(" + parent + ", " + child + ", " + usage + ")";
        Map<String, Long> before = Check.answers(x);
        check.due(call, x.addComponent(parent, child, usage), want);
        check.dueChanged(call, before, x);
    }

    private static void range(Check check) {
        MrpPlanner x = Samples.busy();
        for (int bad : new int[] {-1, 4, 16, Integer.MIN_VALUE, Integer.MAX_VALUE}) {
            refused(check, x, bad, 1, 1, MrpPlanner.ERR_RANGE);
            refused(check, x, 1, bad, 1, MrpPlanner.ERR_RANGE);
            refused(check, x, bad, bad, 1, MrpPlanner.ERR_RANGE);
        }
        for (int bad : new int[] {0, -1, 10, Integer.MIN_VALUE, Integer.MAX_VALUE}) {
            refused(check, x, 1, 3, bad, MrpPlanner.ERR_RANGE);
            refused(check, x, 0, 1, bad, MrpPlanner.ERR_RANGE);
            // The range is tested before the cycle.
            refused(check, x, 1, 1, bad, MrpPlanner.ERR_RANGE);
            refused(check, x, 3, 0, bad, MrpPlanner.ERR_RANGE);
        }
    }

    private static void selfEdge(Check check) {
        MrpPlanner x = Samples.busy();
        for (int i = 0; i < 4; i++) {
            refused(check, x, i, i, 1, MrpPlanner.ERR_CYCLE);
        }
        refused(check, new MrpPlanner(1, 4), 0, 0, 9, MrpPlanner.ERR_CYCLE);
    }

    private static void newEdge(Check check) {
        for (int usage = 1; usage <= 9; usage++) {
            MrpPlanner x = Samples.busy();
            Map<String, Long> before = Check.answers(x);
            check.due("addComponent(1, 3, " + usage + ")", x.addComponent(1, 3, usage), MrpPlanner.OK);
            check.dueDiscarded("a new edge", before, x, "USAGE 1 3", "EDGES");
            check.due("its usage", x.getUsage(1, 3), usage);
            check.due("the edges", x.getCount(MrpPlanner.COUNT_EDGES), 4);
        }
    }

    private static void oldEdge(Check check) {
        MrpPlanner x = Samples.busy();
        Map<String, Long> before = Check.answers(x);
        check.due("addComponent(0, 2, 9)", x.addComponent(0, 2, 9), MrpPlanner.OK);
        check.dueDiscarded("another usage", before, x, "USAGE 0 2");
        check.due("the usage", x.getUsage(0, 2), 9);

        x.plan();
        before = Check.answers(x);
        check.due("addComponent(0, 2, 9) again", x.addComponent(0, 2, 9), MrpPlanner.OK);
        check.dueDiscarded("the same usage", before, x);
    }

    private static void fullBill(Check check) {
        MrpPlanner x = Samples.full();
        check.due("edges of a full bill", x.getCount(MrpPlanner.COUNT_EDGES), 32);
        x.setDemand(0, 3, 2);
        check.due("plan()", x.plan(), MrpPlanner.OK);
        refused(check, x, 14, 15, 1, MrpPlanner.ERR_FULL);
        // The count is tested after the self edge and the range, but before the chain.
        refused(check, x, 1, 0, 1, MrpPlanner.ERR_FULL);
        refused(check, x, 5, 5, 1, MrpPlanner.ERR_CYCLE);
        refused(check, x, 14, 15, 0, MrpPlanner.ERR_RANGE);

        Map<String, Long> before = Check.answers(x);
        check.due("addComponent(0, 1, 7)", x.addComponent(0, 1, 7), MrpPlanner.OK);
        check.dueDiscarded("another usage in a full bill", before, x, "USAGE 0 1");

        check.due("removeComponent(0, 1)", x.removeComponent(0, 1), true);
        refused(check, x, 3, 0, 1, MrpPlanner.ERR_CYCLE);
        check.due("addComponent(14, 15, 1)", x.addComponent(14, 15, 1), MrpPlanner.OK);
        refused(check, x, 0, 1, 1, MrpPlanner.ERR_FULL);
    }

    private static void longChain(Check check) {
        // Once along the numbers and once against them, so that no order of a search is favoured.
        for (int way = -1; way <= 1; way += 2) {
            MrpPlanner x = new MrpPlanner(16, 4);
            int top = way > 0 ? 0 : 15;
            for (int k = 0; k < 15; k++) {
                check.due("a link", x.addComponent(top + way * k, top + way * (k + 1), 1), MrpPlanner.OK);
            }
            for (int k = 1; k < 16; k++) {
                refused(check, x, top + way * k, top, 1, MrpPlanner.ERR_CYCLE);
                refused(check, x, 15 - top, top + way * (k - 1), 1, MrpPlanner.ERR_CYCLE);
            }
            for (int k = 0; k < 16; k++) {
                check.due("LEVEL in a chain", x.getItem(top + way * k, MrpPlanner.ITEM_LEVEL), k);
            }
            check.due("a shortcut", x.addComponent(top, 15 - top, 1), MrpPlanner.OK);
        }
    }

    private static void notEveryShapeIsACycle(Check check) {
        MrpPlanner x = new MrpPlanner(4, 4);
        check.due("addComponent(0, 1, 1)", x.addComponent(0, 1, 1), MrpPlanner.OK);
        check.due("addComponent(0, 2, 1)", x.addComponent(0, 2, 1), MrpPlanner.OK);
        check.due("addComponent(1, 3, 1)", x.addComponent(1, 3, 1), MrpPlanner.OK);
        check.due("addComponent(2, 3, 1)", x.addComponent(2, 3, 1), MrpPlanner.OK);
        check.due("siblings", x.addComponent(2, 1, 1), MrpPlanner.OK);
        refused(check, x, 1, 2, 1, MrpPlanner.ERR_CYCLE);
        check.due("removeComponent(2, 1)", x.removeComponent(2, 1), true);
        check.due("siblings, the other way", x.addComponent(1, 2, 1), MrpPlanner.OK);
    }

    private static void levels(Check check) {
        MrpPlanner x = new MrpPlanner(4, 4);
        x.addComponent(3, 0, 1);
        levelsAre(check, x, 1, 0, 0, 0);
        x.addComponent(0, 2, 1);
        levelsAre(check, x, 1, 0, 2, 0);
        x.addComponent(1, 3, 1);
        levelsAre(check, x, 2, 0, 3, 1);
        // The greatest LEVEL among the parents counts, not the newest edge.
        x.addComponent(1, 2, 1);
        levelsAre(check, x, 2, 0, 3, 1);
    }

    private static void levelsAre(Check check, MrpPlanner x, long... want) {
        for (int i = 0; i < want.length; i++) {
            check.due("LEVEL of " + i, x.getItem(i, MrpPlanner.ITEM_LEVEL), want[i]);
        }
    }
}

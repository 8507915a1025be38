/** Planners that several tests begin with. */
final class Samples {
    private Samples() {
    }

    /**
     * Four items over six periods, planned, one period executed and some stock
     * scrapped, so that no kind of answer is 0 everywhere. Edges: 0 to 1, 0 to 2, 2 to 3.
     */
    static MrpPlanner busy() {
        MrpPlanner x = new MrpPlanner(4, 6);
        x.addComponent(0, 1, 2);
        x.addComponent(0, 2, 3);
        x.addComponent(2, 3, 4);
        x.setItem(0, 1, MrpPlanner.LOT_FOR_LOT, 0);
        x.setItem(1, 2, MrpPlanner.FIXED_QTY, 50);
        x.setItem(2, 1, MrpPlanner.PERIOD_ORDER, 3);
        x.setItem(3, 8, MrpPlanner.LOT_FOR_LOT, 0);
        for (int i = 0; i < 4; i++) {
            x.setOnHand(i, 5 + i);
            for (int t = 0; t < 6; t++) {
                x.setDemand(i, t, 10 + 7 * i + t);
                x.setReceipt(i, t, 1 + i + t);
            }
        }
        x.plan();
        x.step();
        x.scrap(2, 1000);
        return x;
    }

    /** Sixteen items over four periods with MAX_EDGES edges, all from lower to higher numbers. */
    static MrpPlanner full() {
        MrpPlanner x = new MrpPlanner(16, 4);
        int edges = 0;
        for (int parent = 0; parent < 16; parent++) {
            for (int child = parent + 1; child < 16 && edges < MrpPlanner.MAX_EDGES; child++) {
                x.addComponent(parent, child, 1);
                edges++;
            }
        }
        return x;
    }

    /** A chain of eleven items, so that GROSS of item 10 in a period is 10^7 times the demand of item 0 there. */
    static MrpPlanner tenMillionfold() {
        int[] usages = {5, 5, 5, 5, 5, 5, 5, 8, 8, 2};
        MrpPlanner x = new MrpPlanner(11, 16);
        for (int i = 0; i < usages.length; i++) {
            x.addComponent(i, i + 1, usages[i]);
        }
        return x;
    }
}

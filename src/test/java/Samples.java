/** Planners that several tests begin with. */
final class Samples {
    private Samples() {
    }

    /** Four items over six periods, never planned. Edges: 0 to 1, 0 to 2, 2 to 3. */
    static MrpPlanner unplanned() {
        MrpPlanner x = new MrpPlanner(4, 6);
        x.addComponent(0, 1, 2);
        x.addComponent(0, 2, 3);
        x.addComponent(2, 3, 4);
        x.setItem(0, 1, MrpPlanner.LOT_FOR_LOT, 0);
        x.setItem(1, 2, MrpPlanner.FIXED_QTY, 50);
        x.setItem(2, 1, MrpPlanner.PERIOD_ORDER, 3);
        x.setItem(3, 8, MrpPlanner.LOT_FOR_LOT, 0);
        for (int i = 0; i < 4; i++) {
            x.setOnHand(i, 5 + i);
            for (int t = 0; t < 6; t++) {
                x.setDemand(i, t, 10 + 7 * i + t);
                x.setReceipt(i, t, 1 + i + t);
            }
        }
        return x;
    }

    /** The same, planned, one period executed and some stock scrapped, so that no kind of answer is 0 everywhere. */
    static MrpPlanner busy() {
        MrpPlanner x = unplanned();
        x.plan();
        x.step();
        x.scrap(2, 1000);
        return x;
    }

    /** Sixteen items over four periods with MAX_EDGES edges, all from lower to higher numbers. */
    static MrpPlanner full() {
        MrpPlanner x = new MrpPlanner(16, 4);
        int edges = 0;
        for (int parent = 0; parent < 16; parent++) {
            for (int child = parent + 1; child < 16 && edges < MrpPlanner.MAX_EDGES; child++) {
                x.addComponent(parent, child, 1);
                edges++;
            }
        }
        return x;
    }

    /** A chain of eleven items, so that GROSS of item 10 in a period is 10^7 times the demand of item 0 there. */
    static MrpPlanner tenMillionfold() {
        int[] usages = {5, 5, 5, 5, 5, 5, 5, 8, 8, 2};
        MrpPlanner x = new MrpPlanner(11, 16);
        for (int i = 0; i < usages.length; i++) {
            x.addComponent(i, i + 1, usages[i]);
        }
        return x;
    }

    /** One unit above LIMIT in the last period, so that plan() fails; it went well before. */
    static MrpPlanner tooLarge() {
        MrpPlanner x = tenMillionfold();
        x.setOnHand(3, 40);
        x.setDemand(0, 15, 100000);
        x.setDemand(3, 2, 60);
        x.plan();
        x.step();
        x.setDemand(10, 15, 1);
        x.plan();
        return x;
    }

    /**
     * Sixteen items over sixteen periods, no cell empty, each item from 1 to 15 the parent of the one below it,
     * the plan half executed and one item far below 0.
     */
    static MrpPlanner greatest() {
        MrpPlanner x = new MrpPlanner(16, 16);
        for (int i = 0; i < 16; i++) {
            x.setItem(i, i % 9, i % 3, 1 + i % 8);
            x.setOnHand(i, 100 + i);
            for (int t = 0; t < 16; t++) {
                x.setDemand(i, t, 30 + 16 * i + t);
                x.setReceipt(i, t, 1 + (i + t) % 5);
            }
        }
        for (int i = 0; i < 15; i++) {
            x.addComponent(15 - i, 14 - i, 1 + i % 2);
        }
        x.plan();
        for (int t = 0; t < 8; t++) {
            x.step();
        }
        x.scrap(5, 100000);
        return x;
    }

    /** Each item the parent of the next, from 0 on (way 1) or from the last one back (way -1). */
    static MrpPlanner chain(int items, int periods, int way, int usage) {
        MrpPlanner x = new MrpPlanner(items, periods);
        int top = way > 0 ? 0 : items - 1;
        for (int k = 0; k + 1 < items; k++) {
            x.addComponent(top + way * k, top + way * (k + 1), usage);
        }
        return x;
    }
}

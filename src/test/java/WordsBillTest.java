public final class WordsBillTest {
    private static final int GROSS = MrpPlanner.CELL_GROSS;

    public static void main(String[] args) {
        Section section = new Section("Words used below: Bill of materials");
        section.test("An edge (parent, child, usage), usage 1..9,"
                + " says that one unit of parent consumes usage units of child.",
            WordsBillTest::usageUnitsForEachUnit);
        section.test("The units are taken in the period in which the parent's order is released.",
            WordsBillTest::takenWhenReleased);
        section.test("There is at most one edge per ordered pair and at most MAX_EDGES edges.",
            WordsBillTest::oneEdgeForAPairAndNoMoreThanTheMost);
        section.test("The edges never form a cycle.",
            WordsBillTest::neverACycle);
        section.end();
    }

    private static void usageUnitsForEachUnit(Check check) {
        for (int usage = 1; usage <= 9; usage++) {
            MrpPlanner x = new MrpPlanner(2, 4);
            check.due("usage " + usage, x.addComponent(0, 1, usage), MrpPlanner.OK);
            x.setDemand(0, 1, 1);
            x.setDemand(0, 3, 100000);
            x.plan();
            check.dueRow(x, 1, GROSS, 0, usage, 0, 100000L * usage);
            check.dueRow(x, 0, GROSS, 0, 1, 0, 100000);
        }
        MrpPlanner x = new MrpPlanner(2, 4);
        check.due("usage 0", x.addComponent(0, 1, 0), MrpPlanner.ERR_RANGE);
        check.due("usage 10", x.addComponent(0, 1, 10), MrpPlanner.ERR_RANGE);
        x.setDemand(0, 1, 1);
        x.plan();
        check.dueRow(x, 1, GROSS, 0, 0, 0, 0);
    }

    private static void takenWhenReleased(Check check) {
        MrpPlanner x = new MrpPlanner(2, 5);
        x.addComponent(0, 1, 3);
        x.setItem(0, 2, MrpPlanner.LOT_FOR_LOT, 0);
        x.setDemand(0, 4, 10);
        x.plan();
        check.dueRow(x, 1, GROSS, 0, 0, 30, 0, 0);

        // The order's last possible period, its first one, and one that is moved to period 0.
        x.setDemand(0, 4, 0);
        x.setDemand(0, 2, 7);
        x.plan();
        check.dueRow(x, 1, GROSS, 21, 0, 0, 0, 0);
        x.setDemand(0, 1, 100);
        x.plan();
        check.dueRow(x, 1, GROSS, 321, 0, 0, 0, 0);
        x.setItem(0, 0, MrpPlanner.LOT_FOR_LOT, 0);
        x.setDemand(0, 4, 1);
        x.plan();
        check.dueRow(x, 1, GROSS, 0, 300, 21, 0, 3);
    }

    private static void oneEdgeForAPairAndNoMoreThanTheMost(Check check) {
        MrpPlanner x = new MrpPlanner(2, 4);
        x.addComponent(0, 1, 3);
        x.addComponent(0, 1, 5);
        check.due("edges of one pair", x.getCount(MrpPlanner.COUNT_EDGES), 1);
        x.setDemand(0, 0, 1);
        x.plan();
        check.dueRow(x, 1, GROSS, 5, 0, 0, 0);
        check.due("removing it", x.removeComponent(0, 1), true);
        check.due("removing it again", x.removeComponent(0, 1), false);
        check.due("the other way round is another pair", x.addComponent(1, 0, 2), MrpPlanner.OK);

        MrpPlanner all = new MrpPlanner(16, 4);
        int added = 0;
        for (int parent = 0; parent < 16; parent++) {
            for (int child = parent + 1; child < 16; child++) {
                int want = added < 32 ? MrpPlanner.OK : MrpPlanner.ERR_FULL;
                check.due("edge " + (added + 1), all.addComponent(parent, child, 1), want);
                added++;
                check.due("edges", all.getCount(MrpPlanner.COUNT_EDGES), Math.min(added, 32));
            }
        }
    }

    /** Every ordered pair is tried in several orders; the test looks for cycles itself. */
    private static void neverACycle(Check check) {
        int items = 7;
        int pairs = items * items;
        for (int stride : new int[] {1, 3, 5, 8, 11, 13, 29, 48}) {
            MrpPlanner x = new MrpPlanner(items, 4);
            for (int k = 0; k < pairs; k++) {
                int pair = k * stride % pairs;
                x.addComponent(pair / items, pair % items, 1);
                if (k % 9 == 8) {
                    x.removeComponent(k % items, (k + 2) % items);
                }
                check.due("stride " + stride + ", pair " + k + ": a cycle", hasCycle(x, items), false);
            }
            check.due("stride " + stride + ": edges were added", x.getCount(MrpPlanner.COUNT_EDGES) >= 10, true);
        }
    }

    /** Takes away items without parents as long as there is one; what is left over goes round. */
    private static boolean hasCycle(MrpPlanner x, int items) {
        boolean[] gone = new boolean[items];
        for (int round = 0; round < items; round++) {
            for (int i = 0; i < items; i++) {
                gone[i] |= !hasParent(x, i, items, gone);
            }
        }
        for (boolean one : gone) {
            if (!one) {
                return true;
            }
        }
        return false;
    }

    private static boolean hasParent(MrpPlanner x, int item, int items, boolean[] gone) {
        for (int parent = 0; parent < items; parent++) {
            if (!gone[parent] && x.getUsage(parent, item) > 0) {
                return true;
            }
        }
        return false;
    }
}

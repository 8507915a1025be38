import java.util.Map;

public final class Promise03RemoveComponentTest {
    public static void main(String[] args) {
        Check check = new Check();
        refusals(check);
        removal(check);
        levelsFollow(check);
        aFreedPair(check);
        check.end();
    }

    private static void refused(Check check, MrpPlanner x, int parent, int child) {
        String call = "removeComponent(" + parent + ", " + child + ")";
        Map<String, Long> before = Check.answers(x);
        check.due(call, x.removeComponent(parent, child), false);
        check.dueChanged(call, before, x);
    }

    private static void refusals(Check check) {
        MrpPlanner x = Samples.busy();
        for (int bad : new int[] {-1, 4, 16, Integer.MIN_VALUE, Integer.MAX_VALUE}) {
            refused(check, x, bad, 1);
            refused(check, x, 0, bad);
            refused(check, x, bad, bad);
        }
        refused(check, x, 1, 0);
        refused(check, x, 0, 3);
        refused(check, x, 0, 0);
        refused(check, x, 3, 2);
    }

    private static void removal(Check check) {
        MrpPlanner x = Samples.busy();
        Map<String, Long> before = Check.answers(x);
        check.due("removeComponent(0, 1)", x.removeComponent(0, 1), true);
        check.dueDiscarded("removeComponent(0, 1)", before, x, "USAGE 0 1", "EDGES", "LEVEL 1");
        check.due("its usage", x.getUsage(0, 1), 0);
        check.due("the edges", x.getCount(MrpPlanner.COUNT_EDGES), 2);
        check.due("LEVEL of 1", x.getItem(1, MrpPlanner.ITEM_LEVEL), 0);

        x.plan();
        refused(check, x, 0, 1);
        // Without the edge, item 1 meets its own demand alone.
        check.dueRow(x, 1, MrpPlanner.CELL_GROSS, 17, 18, 19, 20, 21, 22);
    }

    private static void levelsFollow(Check check) {
        MrpPlanner x = Samples.busy();
        x.addComponent(1, 3, 1);
        x.removeComponent(0, 2);
        check.due("LEVEL of 2", x.getItem(2, MrpPlanner.ITEM_LEVEL), 0);
        check.due("LEVEL of 3, held down by 1", x.getItem(3, MrpPlanner.ITEM_LEVEL), 2);
        x.removeComponent(1, 3);
        check.due("LEVEL of 3, below 2", x.getItem(3, MrpPlanner.ITEM_LEVEL), 1);
        x.removeComponent(2, 3);
        check.due("LEVEL of 3, free", x.getItem(3, MrpPlanner.ITEM_LEVEL), 0);
        check.due("LEVEL of 1, untouched", x.getItem(1, MrpPlanner.ITEM_LEVEL), 1);
    }

    private static void aFreedPair(Check check) {
        MrpPlanner x = Samples.busy();
        check.due("addComponent(3, 0, 1)", x.addComponent(3, 0, 1), MrpPlanner.ERR_CYCLE);
        x.removeComponent(2, 3);
        check.due("addComponent(3, 0, 1) now", x.addComponent(3, 0, 1), MrpPlanner.OK);
        check.due("removeComponent(3, 0)", x.removeComponent(3, 0), true);
        check.due("addComponent(2, 3, 8)", x.addComponent(2, 3, 8), MrpPlanner.OK);
        check.due("usage of the new edge", x.getUsage(2, 3), 8);
    }
}

import java.util.Map;

public final class Promise03RemoveComponentTest {
    public static void main(String[] args) {
        Section section = new Section("Promise 3: removeComponent");
        section.test("Answers false, changing nothing, if parent or child is not in 0..N-1"
                + " or there is no edge (parent, child).",
            Promise03RemoveComponentTest::refuses);
        section.test("Otherwise it removes that edge, the number of edges shrinks by 1, the plan is discarded,"
                + " and the call answers true.",
            Promise03RemoveComponentTest::removes);
        section.test("LEVEL values follow the remaining edges.",
            Promise03RemoveComponentTest::levelsFollow);
        section.test("Other edges and all item data are unchanged.",
            Promise03RemoveComponentTest::theRestStays);
        section.end();
    }

    private static void refuses(Check check) {
        for (State state : State.values()) {
            Refusals r = new Refusals(check, state);
            for (int bad : Values.outside(0, r.items - 1)) {
                r.due("parent " + bad, r.x.removeComponent(bad, r.items - 1), false);
                r.due("child " + bad, r.x.removeComponent(0, bad), false);
                r.due("both " + bad, r.x.removeComponent(bad, bad), false);
            }
            // Two wrong numbers that together would point at the edge from 0 to 1.
            r.due("(-1, 17)", r.x.removeComponent(-1, 17), false);
            r.due("(1, -15)", r.x.removeComponent(1, -15), false);
            for (int parent = 0; parent < r.items; parent++) {
                for (int child = 0; child < r.items; child++) {
                    if (r.x.getUsage(parent, child) == 0) {
                        String call = "removeComponent(" + parent + ", " + child + ") without an edge";
                        r.due(call, r.x.removeComponent(parent, child), false);
                    }
                }
            }
            r.end();
        }
    }

    private static void removes(Check check) {
        MrpPlanner x = Samples.busy();
        int[][] edges = {{0, 1}, {2, 3}, {0, 2}};
        for (int k = 0; k < edges.length; k++) {
            int parent = edges[k][0];
            int child = edges[k][1];
            x.plan();
            String call = "removeComponent(" + parent + ", " + child + ")";
            check.due(call, x.removeComponent(parent, child), true);
            check.due(call + ": usage", x.getUsage(parent, child), 0);
            check.due(call + ": edges", x.getCount(MrpPlanner.COUNT_EDGES), 2 - k);
            check.due(call + ": CURRENT", x.getCount(MrpPlanner.COUNT_CURRENT), -1);
            check.due(call + " again", x.removeComponent(parent, child), false);
        }
        x.plan();
        // Without the edges, item 1 meets its own demand alone.
        check.dueRow(x, 1, MrpPlanner.CELL_GROSS, 17, 18, 19, 20, 21, 22);
        check.due("the edge can come back", x.addComponent(2, 3, 8), MrpPlanner.OK);
        check.due("with its new usage", x.getUsage(2, 3), 8);
        allOfAFullBill(check);
    }

    private static void allOfAFullBill(Check check) {
        MrpPlanner x = Samples.full();
        int left = 32;
        for (int parent = 15; parent >= 0; parent--) {
            for (int child = 0; child < 16; child++) {
                if (x.getUsage(parent, child) > 0) {
                    check.due("an edge of a full bill", x.removeComponent(parent, child), true);
                    left--;
                    check.due("edges", x.getCount(MrpPlanner.COUNT_EDGES), left);
                }
            }
        }
        check.due("edges left", left, 0);
    }

    private static void levelsFollow(Check check) {
        MrpPlanner x = Samples.busy();
        x.addComponent(1, 3, 1);
        check.dueLevels(x, 0, 1, 1, 2);
        // 1 still holds 3 down.
        x.removeComponent(0, 2);
        check.dueLevels(x, 0, 1, 0, 2);
        x.removeComponent(1, 3);
        check.dueLevels(x, 0, 1, 0, 1);
        x.removeComponent(2, 3);
        check.dueLevels(x, 0, 1, 0, 0);
        x.removeComponent(0, 1);
        check.dueLevels(x, 0, 0, 0, 0);

        MrpPlanner chain = Samples.chain(16, 4, -1, 1);
        chain.removeComponent(8, 7);
        check.dueLevels(chain, 7, 6, 5, 4, 3, 2, 1, 0, 7, 6, 5, 4, 3, 2, 1, 0);
    }

    private static void theRestStays(Check check) {
        for (State state : State.ofFourItems()) {
            removal(check, state, 0, 1, "USAGE 0 1", "EDGES", "LEVEL 1");
            removal(check, state, 0, 2, "USAGE 0 2", "EDGES", "LEVEL 2", "LEVEL 3");
            removal(check, state, 2, 3, "USAGE 2 3", "EDGES", "LEVEL 3");
        }
    }

    private static void removal(Check check, State state, int parent, int child, String... changed) {
        MrpPlanner x = state.make();
        Map<String, Long> before = Check.answers(x);
        String call = state + ": removeComponent(" + parent + ", " + child + ")";
        check.due(call, x.removeComponent(parent, child), true);
        check.dueDiscarded(call, before, x, changed);
    }
}

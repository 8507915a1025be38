public final class Promise11GetUsageTest {
    public static void main(String[] args) {
        Section section = new Section("Promise 11: getUsage");
        section.test("Answers the usage (1..9) of the edge (parent, child).",
            Promise11GetUsageTest::ofAnEdge);
        section.test("Answers 0 if there is no such edge or an argument is out of range.",
            Promise11GetUsageTest::zeroWithout);
        section.test("Changes nothing.",
            Promise11GetUsageTest::changesNothing);
        section.end();
    }

    private static void ofAnEdge(Check check) {
        MrpPlanner x = new MrpPlanner(16, 4);
        for (int usage = 1; usage <= 9; usage++) {
            x.addComponent(15, usage, usage);
            x.addComponent(usage, 0, 10 - usage);
        }
        for (int usage = 1; usage <= 9; usage++) {
            check.due("getUsage(15, " + usage + ")", x.getUsage(15, usage), usage);
            check.due("getUsage(" + usage + ", 0)", x.getUsage(usage, 0), 10 - usage);
        }
        // With a plan, without one, and after it is set anew.
        x.plan();
        check.due("getUsage(15, 9) with a plan", x.getUsage(15, 9), 9);
        x.addComponent(15, 9, 2);
        check.due("getUsage(15, 9) set anew", x.getUsage(15, 9), 2);
    }

    private static void zeroWithout(Check check) {
        int[][] usages = {{0, 2, 3, 0}, {0, 0, 0, 0}, {0, 0, 0, 4}, {0, 0, 0, 0}};
        MrpPlanner x = Samples.busy();
        for (int parent = -20; parent < 20; parent++) {
            for (int child = -20; child < 20; child++) {
                boolean isInside = parent >= 0 && parent < 4 && child >= 0 && child < 4;
                String call = "getUsage(" + parent + ", " + child + ")";
                check.due(call, x.getUsage(parent, child), isInside ? usages[parent][child] : 0);
            }
        }
        for (State state : State.values()) {
            MrpPlanner y = state.make();
            int items = y.getCount(MrpPlanner.COUNT_ITEMS);
            for (int bad : Values.outside(0, items - 1)) {
                for (int good = 0; good < items; good++) {
                    check.due(state + ": getUsage(" + bad + ", " + good + ")", y.getUsage(bad, good), 0);
                    check.due(state + ": getUsage(" + good + ", " + bad + ")", y.getUsage(good, bad), 0);
                }
                check.due(state + ": getUsage(" + bad + ", " + bad + ")", y.getUsage(bad, bad), 0);
            }
        }
        x.removeComponent(0, 1);
        check.due("getUsage(0, 1) of a removed edge", x.getUsage(0, 1), 0);
        x.addComponent(3, 0, 5);
        check.due("getUsage(3, 0) of a refused edge", x.getUsage(3, 0), 0);
    }

    private static void changesNothing(Check check) {
        for (State state : State.values()) {
            Refusals r = new Refusals(check, state);
            int there = r.x.getUsage(0, r.items - 1);
            r.due("getUsage(0, N-1)", r.x.getUsage(0, r.items - 1), there);
            r.due("getUsage(0, 0)", r.x.getUsage(0, 0), 0);
            r.due("getUsage(-1, 0)", r.x.getUsage(-1, 0), 0);
            r.due("getUsage(0, N)", r.x.getUsage(0, r.items), 0);
            r.end();
        }
    }
}

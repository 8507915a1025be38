import java.util.Map;

public final class Promise02AddComponentTest {
    private static final int OK = MrpPlanner.OK;
    private static final int ERR_RANGE = MrpPlanner.ERR_RANGE;
    private static final int ERR_CYCLE = MrpPlanner.ERR_CYCLE;
    private static final int ERR_FULL = MrpPlanner.ERR_FULL;
    private static final int EDGES = MrpPlanner.COUNT_EDGES;

    public static void main(String[] args) {
        Section section = new Section("Promise 2: addComponent");
        section.test("Adds the edge (parent, child, usage), or sets the usage of an existing edge.",
            Promise02AddComponentTest::addsOrSets);
        section.test("The tests are made in this order and the first that applies decides:",
            Promise02AddComponentTest::orderOfTheTests);
        section.test("parent or child is not in 0..N-1, or usage is not in 1..9: answers ERR_RANGE.",
            Promise02AddComponentTest::range);
        section.test("parent == child: answers ERR_CYCLE.",
            Promise02AddComponentTest::toItself);
        section.test("The edge (parent, child) exists: its usage becomes usage, the plan is discarded,"
                + " and the call answers OK.",
            Promise02AddComponentTest::anEdgeThatExists);
        section.test("This happens even when MAX_EDGES edges exist and even when the usage was already usage;"
                + " the number of edges does not change.",
            Promise02AddComponentTest::existsInAFullBillOrWithTheSameUsage);
        section.test("There are already MAX_EDGES edges: answers ERR_FULL.",
            Promise02AddComponentTest::full);
        section.test("A chain of edges leads from child down to parent (child is an ancestor of parent):"
                + " answers ERR_CYCLE.",
            Promise02AddComponentTest::chainBack);
        section.test("Otherwise the edge is added, the number of edges grows by 1, the plan is discarded,"
                + " and the call answers OK.",
            Promise02AddComponentTest::aNewEdge);
        section.test("A call answering ERR_RANGE, ERR_CYCLE or ERR_FULL changes nothing:"
                + " edges, usages, item data, the plan, CURRENT and STOCK all stay.",
            Promise02AddComponentTest::refusedChangesNothing);
        section.test("A call answering OK changes only the one edge (and, by following the edges, LEVEL values)"
                + " and discards the plan; no item data changes.",
            Promise02AddComponentTest::changesTheOneEdge);
        section.end();
    }

    private static void add(Check check, MrpPlanner x, int parent, int child, int usage, int want) {
        String call = "addComponent(" + parent + ", " + child + ", " + usage + ")";
        check.due(call, x.addComponent(parent, child, usage), want);
    }

    private static void addsOrSets(Check check) {
        MrpPlanner x = new MrpPlanner(3, 4);
        add(check, x, 0, 2, 4, OK);
        check.due("usage of 0 to 2", x.getUsage(0, 2), 4);
        check.due("usage of 2 to 0", x.getUsage(2, 0), 0);
        add(check, x, 0, 2, 7, OK);
        check.due("usage of 0 to 2, set", x.getUsage(0, 2), 7);
        check.due("edges", x.getCount(EDGES), 1);
        add(check, x, 2, 1, 9, OK);
        check.due("usage of 2 to 1", x.getUsage(2, 1), 9);
        check.due("usage of 0 to 2 still", x.getUsage(0, 2), 7);
        check.due("edges", x.getCount(EDGES), 2);
    }

    /** Each pair of tests that can apply to one call. */
    private static void orderOfTheTests(Check check) {
        MrpPlanner x = State.BUSY.make();
        add(check, x, 4, 4, 1, ERR_RANGE);
        add(check, x, -1, -1, 1, ERR_RANGE);
        add(check, x, 1, 1, 0, ERR_RANGE);
        add(check, x, 1, 1, 10, ERR_RANGE);
        add(check, x, 0, 1, 10, ERR_RANGE);
        add(check, x, 0, 1, 0, ERR_RANGE);
        add(check, x, 3, 0, 10, ERR_RANGE);
        MrpPlanner full = State.FULL.make();
        add(check, full, 14, 15, 0, ERR_RANGE);
        add(check, full, 14, 16, 1, ERR_RANGE);
        add(check, full, 5, 5, 1, ERR_CYCLE);
        add(check, full, 1, 0, 1, ERR_FULL);
        check.due("plan still there", full.getCount(MrpPlanner.COUNT_CURRENT), 0);
        add(check, full, 0, 1, 1, OK);
    }

    private static void range(Check check) {
        for (State state : State.values()) {
            Refusals r = new Refusals(check, state);
            for (int bad : Values.outside(0, r.items - 1)) {
                r.due("parent " + bad, r.x.addComponent(bad, 0, 1), ERR_RANGE);
                r.due("child " + bad, r.x.addComponent(0, bad, 1), ERR_RANGE);
                r.due("both " + bad, r.x.addComponent(bad, bad, 1), ERR_RANGE);
            }
            for (int bad : Values.outside(1, 9)) {
                r.due("usage " + bad, r.x.addComponent(0, r.items - 1, bad), ERR_RANGE);
            }
            // Two wrong numbers that together would point at a pair there is.
            r.due("(-1, 17)", r.x.addComponent(-1, 17, 1), ERR_RANGE);
            r.due("(1, -15)", r.x.addComponent(1, -15, 1), ERR_RANGE);
            r.end();
        }
        // Both ends of each range are in it.
        MrpPlanner x = new MrpPlanner(4, 4);
        add(check, x, 0, 3, 1, OK);
        add(check, x, 0, 3, 9, OK);
        x = new MrpPlanner(4, 4);
        add(check, x, 3, 0, 9, OK);
        add(check, x, 3, 0, 1, OK);
    }

    private static void toItself(Check check) {
        for (State state : State.values()) {
            Refusals r = new Refusals(check, state);
            for (int i = 0; i < r.items; i++) {
                r.due(i + " to itself", r.x.addComponent(i, i, 1 + i % 9), ERR_CYCLE);
            }
            r.end();
        }
    }

    private static void anEdgeThatExists(Check check) {
        for (int usage = 1; usage <= 9; usage++) {
            MrpPlanner x = State.BUSY.make();
            add(check, x, 0, 2, usage, OK);
            check.due("usage", x.getUsage(0, 2), usage);
            check.due("CURRENT", x.getCount(MrpPlanner.COUNT_CURRENT), -1);
            x.plan();
            long release = x.getCell(0, 1, MrpPlanner.CELL_RELEASE);
            check.due("GROSS by the new usage", x.getCell(2, 1, MrpPlanner.CELL_GROSS), 25 + usage * release);
        }
    }

    private static void existsInAFullBillOrWithTheSameUsage(Check check) {
        for (int usage : new int[] {1, 7}) {
            MrpPlanner x = State.FULL.make();
            Map<String, Long> before = Check.answers(x);
            add(check, x, 0, 1, usage, OK);
            check.due("usage", x.getUsage(0, 1), usage);
            check.due("edges", x.getCount(EDGES), 32);
            if (usage == 1) {
                check.dueDiscarded("the same usage in a full bill", before, x);
            } else {
                check.dueDiscarded("another usage in a full bill", before, x, "USAGE 0 1");
            }
            add(check, x, 14, 15, 1, ERR_FULL);
        }
        MrpPlanner x = State.BUSY.make();
        Map<String, Long> before = Check.answers(x);
        add(check, x, 0, 2, 3, OK);
        check.dueDiscarded("the same usage", before, x);
        check.due("edges", x.getCount(EDGES), 3);
    }

    private static void full(Check check) {
        Refusals r = new Refusals(check, State.FULL);
        for (int parent = 2; parent < 15; parent++) {
            boolean isThere = r.x.getUsage(parent, 15) > 0;
            if (!isThere) {
                r.due("addComponent(" + parent + ", 15, 1)", r.x.addComponent(parent, 15, 1), ERR_FULL);
            }
        }
        r.due("edges", r.x.getCount(EDGES), 32);
        r.end();

        // The 32nd edge is added, and a place that is made free is used again.
        MrpPlanner x = Samples.full();
        check.due("removeComponent(0, 1)", x.removeComponent(0, 1), true);
        check.due("edges", x.getCount(EDGES), 31);
        add(check, x, 14, 15, 1, OK);
        check.due("edges", x.getCount(EDGES), 32);
        add(check, x, 0, 1, 1, ERR_FULL);
        add(check, x, 13, 15, 1, ERR_FULL);
    }

    private static void chainBack(Check check) {
        // Once along the numbers and once against them, so that no order of a search is favoured.
        for (int way = -1; way <= 1; way += 2) {
            MrpPlanner x = Samples.chain(16, 4, way, 1);
            Map<String, Long> before = Check.answers(x);
            int top = way > 0 ? 0 : 15;
            for (int upper = 0; upper < 16; upper++) {
                for (int lower = upper + 1; lower < 16; lower++) {
                    add(check, x, top + way * lower, top + way * upper, 1, ERR_CYCLE);
                }
            }
            check.dueChanged("cycles of a chain", before, x);
            add(check, x, top, 15 - top, 1, OK);
        }
        // A way round several corners, and one that a removal has cut.
        MrpPlanner x = new MrpPlanner(6, 4);
        for (int[] edge : new int[][] {{4, 1}, {1, 5}, {5, 0}, {4, 2}, {2, 0}, {0, 3}}) {
            add(check, x, edge[0], edge[1], 2, OK);
        }
        add(check, x, 3, 4, 1, ERR_CYCLE);
        x.removeComponent(1, 5);
        add(check, x, 3, 4, 1, ERR_CYCLE);
        x.removeComponent(2, 0);
        add(check, x, 3, 4, 1, OK);
        // What hung between 4 and 0 now hangs below 3, so it cannot lead to 0 again.
        add(check, x, 2, 0, 1, ERR_CYCLE);
        add(check, x, 1, 5, 1, ERR_CYCLE);
        add(check, x, 5, 1, 1, OK);

        // With one place left in the bill the chain still decides.
        MrpPlanner nearlyFull = Samples.full();
        nearlyFull.removeComponent(0, 1);
        add(check, nearlyFull, 3, 0, 1, ERR_CYCLE);
        add(check, nearlyFull, 15, 1, 1, ERR_CYCLE);
        check.due("edges", nearlyFull.getCount(EDGES), 31);
    }

    private static void aNewEdge(Check check) {
        for (int usage = 1; usage <= 9; usage++) {
            MrpPlanner x = State.BUSY.make();
            add(check, x, 1, 3, usage, OK);
            check.due("usage", x.getUsage(1, 3), usage);
            check.due("edges", x.getCount(EDGES), 4);
            check.due("CURRENT", x.getCount(MrpPlanner.COUNT_CURRENT), -1);
        }
        // Two ways to one item and a way between brothers are no cycle.
        MrpPlanner x = new MrpPlanner(4, 4);
        int edges = 0;
        for (int[] edge : new int[][] {{0, 1}, {0, 2}, {1, 3}, {2, 3}, {0, 3}, {2, 1}}) {
            add(check, x, edge[0], edge[1], 1, OK);
            edges++;
            check.due("edges", x.getCount(EDGES), edges);
        }
    }

    private static void refusedChangesNothing(Check check) {
        for (State state : State.ofFourItems()) {
            Refusals r = new Refusals(check, state);
            r.due("out of range, edge there", r.x.addComponent(0, 1, 10), ERR_RANGE);
            r.due("out of range, no edge", r.x.addComponent(1, 3, 0), ERR_RANGE);
            r.due("to itself", r.x.addComponent(2, 2, 1), ERR_CYCLE);
            r.due("one edge back", r.x.addComponent(1, 0, 1), ERR_CYCLE);
            r.due("two edges back", r.x.addComponent(3, 0, 1), ERR_CYCLE);
            r.end();
        }
        Refusals r = new Refusals(check, State.FULL);
        r.due("full", r.x.addComponent(14, 15, 1), ERR_FULL);
        r.due("full, and a cycle", r.x.addComponent(1, 0, 1), ERR_FULL);
        r.due("full, to itself", r.x.addComponent(1, 1, 1), ERR_CYCLE);
        r.end();
    }

    private static void changesTheOneEdge(Check check) {
        for (State state : State.ofFourItems()) {
            MrpPlanner x = state.make();
            Map<String, Long> before = Check.answers(x);
            add(check, x, 1, 3, 6, OK);
            check.dueDiscarded("a new edge", before, x, "USAGE 1 3", "EDGES");
            before = Check.answers(x);
            add(check, x, 3, 1, 6, ERR_CYCLE);
            add(check, x, 1, 2, 5, OK);
            check.dueChanged("an edge that pushes down", before, x, "USAGE 1 2", "EDGES", "LEVEL 2", "LEVEL 3");
            check.dueLevels(x, 0, 1, 2, 3);
            before = Check.answers(x);
            add(check, x, 1, 2, 8, OK);
            check.dueChanged("another usage", before, x, "USAGE 1 2");
        }
    }
}

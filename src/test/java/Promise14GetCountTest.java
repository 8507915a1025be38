public final class Promise14GetCountTest {
    public static void main(String[] args) {
        Section section = new Section("Promise 14: getCount");
        section.test("Answers, chosen by what: COUNT_ITEMS gives N, COUNT_PERIODS gives P,"
                + " COUNT_EDGES the number of edges (0..MAX_EDGES), COUNT_CURRENT gives CURRENT"
                + " (-1 when there is no plan, otherwise 0..P).",
            Promise14GetCountTest::eachKind);
        section.test("Answers 0 for any other value of what.",
            Promise14GetCountTest::anyOther);
        section.test("Changes nothing.",
            Promise14GetCountTest::changesNothing);
        section.end();
    }

    private static void counts(Check check, String when, MrpPlanner x, int... want) {
        for (int what = 0; what < want.length; what++) {
            check.due(when + ": getCount(" + what + ")", x.getCount(what), want[what]);
        }
    }

    private static void eachKind(Check check) {
        MrpPlanner x = new MrpPlanner(5, 7);
        counts(check, "new", x, 5, 7, 0, -1);
        x.addComponent(0, 1, 2);
        x.addComponent(1, 2, 2);
        x.addComponent(2, 1, 2);
        x.addComponent(0, 1, 3);
        counts(check, "after two edges", x, 5, 7, 2, -1);
        x.plan();
        counts(check, "planned", x, 5, 7, 2, 0);
        for (int t = 1; t <= 7; t++) {
            x.step();
            counts(check, "after step " + t, x, 5, 7, 2, t);
        }
        x.step();
        counts(check, "after a step too many", x, 5, 7, 2, 7);
        x.removeComponent(0, 1);
        counts(check, "after a removal", x, 5, 7, 1, -1);
        x.removeComponent(1, 2);
        counts(check, "after the last removal", x, 5, 7, 0, -1);

        MrpPlanner full = State.FULL.make();
        counts(check, "full", full, 16, 4, MrpPlanner.MAX_EDGES, 0);
        full.addComponent(14, 15, 1);
        counts(check, "full still", full, 16, 4, 32, 0);
        counts(check, "smallest", State.SMALLEST.make(), 1, 4, 0, 0);
        counts(check, "too large", State.TOO_LARGE.make(), 11, 16, 10, -1);
        check.due("COUNT_ITEMS", full.getCount(MrpPlanner.COUNT_ITEMS), 16);
        check.due("COUNT_PERIODS", full.getCount(MrpPlanner.COUNT_PERIODS), 4);
        check.due("COUNT_EDGES", full.getCount(MrpPlanner.COUNT_EDGES), 32);
        check.due("COUNT_CURRENT", full.getCount(MrpPlanner.COUNT_CURRENT), 0);
    }

    private static void anyOther(Check check) {
        for (State state : State.values()) {
            MrpPlanner x = state.make();
            for (int bad : Values.outside(0, 3)) {
                check.due(state + ": getCount(" + bad + ")", x.getCount(bad), 0);
            }
        }
    }

    private static void changesNothing(Check check) {
        for (State state : State.values()) {
            Refusals r = new Refusals(check, state);
            for (int what = -1; what <= 4; what++) {
                int there = r.x.getCount(what);
                r.due("getCount(" + what + ")", r.x.getCount(what), there);
            }
            r.end();
        }
    }
}

import java.util.Map;
import java.util.function.Consumer;

/**
 * Calls that a planner refuses. None of them may change an answer, neither at
 * once nor later: in the end the planner goes on beside a twin that never got them.
 */
final class Refusals {
    final MrpPlanner x;
    final int items;
    final int periods;
    private final Check check;
    private final State state;
    private final Map<String, Long> before;

    Refusals(Check check, State state) {
        this.check = check;
        this.state = state;
        x = state.make();
        items = x.getCount(MrpPlanner.COUNT_ITEMS);
        periods = x.getCount(MrpPlanner.COUNT_PERIODS);
        before = Check.answers(x);
    }

    void due(String call, boolean got, boolean want) {
        check.due(state + ": " + call, got, want);
        unchanged(call);
    }

    void due(String call, long got, long want) {
        check.due(state + ": " + call, got, want);
        unchanged(call);
    }

    void end() {
        MrpPlanner twin = state.make();
        goOn(twin, "as it is");
        both(twin, MrpPlanner::plan);
        goOn(twin, "planned anew");
        both(twin, y -> y.setDemand(0, 1, 77));
        both(twin, y -> y.addComponent(0, items - 1, 2));
        goOn(twin, "edited");
        both(twin, MrpPlanner::plan);
        goOn(twin, "edited and planned");
    }

    private void both(MrpPlanner twin, Consumer<MrpPlanner> call) {
        call.accept(x);
        call.accept(twin);
    }

    private void goOn(MrpPlanner twin, String when) {
        String at = state + " after refused calls, " + when + ": ";
        check.dueChanged(at, Check.answers(twin), x);
        for (int k = 0; k <= periods; k++) {
            check.due(at + "step() " + k, x.step(), twin.step());
            check.dueChanged(at + "step() " + k, Check.answers(twin), x);
        }
    }

    private void unchanged(String call) {
        check.dueChanged(state + ": " + call, before, x);
    }
}

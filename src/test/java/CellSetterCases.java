import java.util.Map;

/** What promises 6 and 7 say in the same words of setReceipt and setDemand. */
final class CellSetterCases {
    interface Setter {
        boolean set(MrpPlanner x, int item, int period, int qty);
    }

    private final String name;
    private final int field;
    private final String fieldName;
    private final Setter setter;

    CellSetterCases(String name, int field, String fieldName, Setter setter) {
        this.name = name;
        this.field = field;
        this.fieldName = fieldName;
        this.setter = setter;
    }

    void addTo(Section section) {
        section.test("Answers false, changing nothing, if item is not in 0..N-1, period is not in 0..P-1,"
                + " or qty is not in 0..100000.",
            this::refuses);
        section.test("Otherwise it stores qty, discards the plan and answers true.",
            this::stores);
        section.test("Nothing else changes.",
            this::theRestStays);
    }

    /** A row of its own for item 1, once set and once set anew. */
    void replaces(Check check) {
        MrpPlanner x = new MrpPlanner(2, 4);
        setter.set(x, 1, 2, 70);
        check.dueRow(x, 1, field, 0, 0, 70, 0);
        setter.set(x, 1, 2, 30);
        check.dueRow(x, 1, field, 0, 0, 30, 0);
        setter.set(x, 1, 3, 5);
        setter.set(x, 1, 2, 0);
        check.dueRow(x, 1, field, 0, 0, 0, 5);
        check.dueRow(x, 0, field, 0, 0, 0, 0);
    }

    private void refuses(Check check) {
        for (State state : State.values()) {
            Refusals r = new Refusals(check, state);
            for (int bad : Values.outside(0, r.items - 1)) {
                r.due(name + " of item " + bad, setter.set(r.x, bad, 1, 1), false);
            }
            for (int bad : Values.outside(0, r.periods - 1)) {
                r.due(name + " in period " + bad, setter.set(r.x, 0, bad, 1), false);
                r.due(name + " in period " + bad, setter.set(r.x, r.items - 1, bad, 1), false);
            }
            for (int bad : Values.outside(0, 100000)) {
                r.due(name + " of qty " + bad, setter.set(r.x, 0, r.periods - 1, bad), false);
            }
            // Two wrong numbers that together would point at a cell there is.
            r.due(name + " (-1, 16)", setter.set(r.x, -1, 16, 1), false);
            r.due(name + " (1, -16)", setter.set(r.x, 1, -16, 1), false);
            r.end();
        }
    }

    private void stores(Check check) {
        for (State state : State.values()) {
            MrpPlanner x = state.make();
            int lastItem = x.getCount(MrpPlanner.COUNT_ITEMS) - 1;
            int lastPeriod = x.getCount(MrpPlanner.COUNT_PERIODS) - 1;
            for (int qty : Values.inside(0, 100000)) {
                for (int item : new int[] {0, lastItem}) {
                    stored(check, x, item, 0, qty);
                    stored(check, x, item, lastPeriod, qty);
                }
            }
        }
        // What is there already discards the plan too.
        MrpPlanner x = State.BUSY.make();
        Map<String, Long> before = Check.answers(x);
        int there = (int) x.getCell(2, 3, field);
        check.due(name + " of what is there", setter.set(x, 2, 3, there), true);
        check.dueDiscarded(name + " of what is there", before, x);
    }

    private void stored(Check check, MrpPlanner x, int item, int period, int qty) {
        String call = name + "(" + item + ", " + period + ", " + qty + ")";
        x.plan();
        check.due(call, setter.set(x, item, period, qty), true);
        check.due(call + ": " + fieldName, x.getCell(item, period, field), qty);
        check.due(call + ": CURRENT", x.getCount(MrpPlanner.COUNT_CURRENT), -1);
    }

    private void theRestStays(Check check) {
        for (State state : State.values()) {
            MrpPlanner x = state.make();
            for (int item = 0; item < x.getCount(MrpPlanner.COUNT_ITEMS); item++) {
                for (int period = 0; period < x.getCount(MrpPlanner.COUNT_PERIODS); period++) {
                    Map<String, Long> before = Check.answers(x);
                    long qty = 70000 + 16 * item + period;
                    before.put(fieldName + " " + item + " " + period, qty);
                    String call = state + ": " + name + "(" + item + ", " + period + ", " + qty + ")";
                    check.due(call, setter.set(x, item, period, (int) qty), true);
                    check.dueDiscarded(call, before, x);
                }
            }
        }
    }
}

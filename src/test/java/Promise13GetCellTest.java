public final class Promise13GetCellTest {
    public static void main(String[] args) {
        Section section = new Section("Promise 13: getCell");
        section.test("Answers one value of item in period, chosen by field: CELL_DEMAND gives D,"
                + " CELL_RECEIPT gives S, CELL_GROSS gives GROSS, CELL_NET gives NET, CELL_PLANNED gives PLANNED,"
                + " CELL_RELEASE gives RELEASE and CELL_PROJECTED gives PROJECTED.",
            Promise13GetCellTest::eachField);
        section.test("The last five are 0 when there is no plan.",
            Promise13GetCellTest::withoutAPlan);
        section.test("Answers 0 if item is not in 0..N-1, period is not in 0..P-1, or field is not a CELL_ constant.",
            Promise13GetCellTest::wrongArguments);
        section.test("Changes nothing.",
            Promise13GetCellTest::changesNothing);
        section.end();
    }

    private static MrpPlanner planned() {
        MrpPlanner x = new MrpPlanner(2, 5);
        x.addComponent(0, 1, 3);
        x.setItem(0, 1, MrpPlanner.FIXED_QTY, 10);
        x.setOnHand(0, 2);
        x.setDemand(0, 2, 25);
        x.setReceipt(0, 2, 4);
        x.setDemand(1, 1, 8);
        x.plan();
        return x;
    }

    private static void cell(Check check, MrpPlanner x, int item, int period, long... want) {
        for (int field = 0; field < want.length; field++) {
            String call = "getCell(" + item + ", " + period + ", " + field + ")";
            check.due(call, x.getCell(item, period, field), want[field]);
        }
    }

    private static void eachField(Check check) {
        MrpPlanner x = planned();
        cell(check, x, 0, 0, 0, 0, 0, 0, 0, 0, 2);
        cell(check, x, 0, 1, 0, 0, 0, 0, 0, 20, 2);
        cell(check, x, 0, 2, 25, 4, 25, 19, 20, 0, 1);
        cell(check, x, 0, 4, 0, 0, 0, 0, 0, 0, 1);
        cell(check, x, 1, 1, 8, 0, 68, 68, 68, 68, 0);
        check.due("CELL_DEMAND", x.getCell(0, 2, MrpPlanner.CELL_DEMAND), 25);
        check.due("CELL_RECEIPT", x.getCell(0, 2, MrpPlanner.CELL_RECEIPT), 4);
        check.due("CELL_GROSS", x.getCell(1, 1, MrpPlanner.CELL_GROSS), 68);
        check.due("CELL_NET", x.getCell(0, 2, MrpPlanner.CELL_NET), 19);
        check.due("CELL_PLANNED", x.getCell(0, 2, MrpPlanner.CELL_PLANNED), 20);
        check.due("CELL_RELEASE", x.getCell(0, 1, MrpPlanner.CELL_RELEASE), 20);
        check.due("CELL_PROJECTED", x.getCell(0, 2, MrpPlanner.CELL_PROJECTED), 1);
    }

    private static void withoutAPlan(Check check) {
        MrpPlanner x = planned();
        x.setOnHand(1, 0);
        cell(check, x, 0, 2, 25, 4, 0, 0, 0, 0, 0);
        cell(check, x, 1, 1, 8, 0, 0, 0, 0, 0, 0);
        for (State state : State.values()) {
            MrpPlanner y = state.make();
            for (int i = 0; i < y.getCount(MrpPlanner.COUNT_ITEMS) && !state.hasPlan(); i++) {
                for (int t = 0; t < y.getCount(MrpPlanner.COUNT_PERIODS); t++) {
                    for (int field = MrpPlanner.CELL_GROSS; field <= MrpPlanner.CELL_PROJECTED; field++) {
                        String call = state + ": getCell(" + i + ", " + t + ", " + field + ")";
                        check.due(call, y.getCell(i, t, field), 0);
                    }
                }
            }
        }
    }

    private static void wrongArguments(Check check) {
        for (State state : State.values()) {
            MrpPlanner x = state.make();
            int items = x.getCount(MrpPlanner.COUNT_ITEMS);
            int periods = x.getCount(MrpPlanner.COUNT_PERIODS);
            for (int field = -1; field <= 7; field++) {
                for (int bad : Values.outside(0, items - 1)) {
                    for (int t = 0; t < periods; t++) {
                        dueZero(check, state, x, bad, t, field);
                    }
                }
                for (int bad : Values.outside(0, periods - 1)) {
                    for (int i = 0; i < items; i++) {
                        dueZero(check, state, x, i, bad, field);
                    }
                    dueZero(check, state, x, bad, bad, field);
                }
                // Two wrong numbers that together would point at a cell there is.
                dueZero(check, state, x, -1, 16, field);
                dueZero(check, state, x, items, -16, field);
            }
            for (int bad : Values.outside(0, 6)) {
                for (int i = 0; i < items; i++) {
                    dueZero(check, state, x, i, periods - 1, bad);
                }
            }
        }
    }

    private static void dueZero(Check check, State state, MrpPlanner x, int item, int period, int field) {
        String call = state + ": getCell(" + item + ", " + period + ", " + field + ")";
        check.due(call, x.getCell(item, period, field), 0);
    }

    private static void changesNothing(Check check) {
        for (State state : State.values()) {
            Refusals r = new Refusals(check, state);
            int last = r.items - 1;
            for (int field = -1; field <= 7; field++) {
                long there = r.x.getCell(last, 3, field);
                r.due("getCell(N-1, 3, " + field + ")", r.x.getCell(last, 3, field), there);
                r.due("getCell(N-1, P, " + field + ")", r.x.getCell(last, r.periods, field), 0);
                r.due("getCell(N, 0, " + field + ")", r.x.getCell(r.items, 0, field), 0);
            }
            r.end();
        }
    }
}

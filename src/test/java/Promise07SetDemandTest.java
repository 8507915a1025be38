public final class Promise07SetDemandTest {
    private static final CellSetterCases CASES =
        new CellSetterCases("setDemand", MrpPlanner.CELL_DEMAND, "DEMAND", MrpPlanner::setDemand);

    public static void main(String[] args) {
        Section section = new Section("Promise 7: setDemand");
        section.test("Sets the external demand of item in period; it replaces the old value.",
            Promise07SetDemandTest::sets);
        CASES.addTo(section);
        section.end();
    }

    private static void sets(Check check) {
        CASES.replaces(check);
        MrpPlanner x = new MrpPlanner(2, 4);
        x.setDemand(1, 3, 7);
        x.setDemand(1, 3, 100000);
        x.setDemand(1, 0, 1);
        x.plan();
        check.dueRow(x, 1, MrpPlanner.CELL_GROSS, 1, 0, 0, 100000);
        check.dueRow(x, 0, MrpPlanner.CELL_GROSS, 0, 0, 0, 0);
        check.dueRow(x, 1, MrpPlanner.CELL_RECEIPT, 0, 0, 0, 0);
    }
}

public final class Promise06SetReceiptTest {
    private static final CellSetterCases CASES =
        new CellSetterCases("setReceipt", MrpPlanner.CELL_RECEIPT, "RECEIPT", MrpPlanner::setReceipt);

    public static void main(String[] args) {
        Section section = new Section("Promise 6: setReceipt");
        section.test("Sets the scheduled receipt of item in period; it replaces the old value.",
            Promise06SetReceiptTest::sets);
        CASES.addTo(section);
        section.end();
    }

    private static void sets(Check check) {
        CASES.replaces(check);
        MrpPlanner x = new MrpPlanner(1, 4);
        x.setReceipt(0, 1, 90);
        x.setReceipt(0, 1, 40);
        x.setDemand(0, 2, 50);
        x.plan();
        check.dueRow(x, 0, MrpPlanner.CELL_PROJECTED, 0, 40, 0, 0);
        check.dueRow(x, 0, MrpPlanner.CELL_PLANNED, 0, 0, 10, 0);
        check.dueRow(x, 0, MrpPlanner.CELL_DEMAND, 0, 0, 50, 0);
    }
}

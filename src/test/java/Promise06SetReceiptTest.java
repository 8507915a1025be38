public final class Promise06SetReceiptTest {
    public static void main(String[] args) {
        Check check = new Check();
        new CellSetterCases(check, "setReceipt", MrpPlanner.CELL_RECEIPT, "RECEIPT", MrpPlanner::setReceipt).run();

        MrpPlanner x = new MrpPlanner(1, 4);
        x.setReceipt(0, 1, 40);
        x.setDemand(0, 2, 50);
        x.plan();
        check.dueRow(x, 0, MrpPlanner.CELL_PROJECTED, 0, 40, 0, 0);
        check.dueRow(x, 0, MrpPlanner.CELL_PLANNED, 0, 0, 10, 0);
        check.dueRow(x, 0, MrpPlanner.CELL_RELEASE, 0, 0, 10, 0);
        check.end();
    }
}

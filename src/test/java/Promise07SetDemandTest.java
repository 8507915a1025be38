public final class Promise07SetDemandTest {
    public static void main(String[] args) {
        Check check = new Check();
        new CellSetterCases(check, "setDemand", MrpPlanner.CELL_DEMAND, "DEMAND", MrpPlanner::setDemand).run();

        MrpPlanner x = new MrpPlanner(2, 4);
        x.setDemand(1, 3, 100000);
        x.setDemand(1, 0, 1);
        x.plan();
        check.dueRow(x, 1, MrpPlanner.CELL_GROSS, 1, 0, 0, 100000);
        check.dueRow(x, 0, MrpPlanner.CELL_GROSS, 0, 0, 0, 0);
        check.end();
    }
}

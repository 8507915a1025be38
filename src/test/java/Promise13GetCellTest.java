import java.util.Map;

public final class Promise13GetCellTest {
    public static void main(String[] args) {
        Check check = new Check();
        MrpPlanner x = new MrpPlanner(2, 5);
        x.addComponent(0, 1, 3);
        x.setItem(0, 1, MrpPlanner.FIXED_QTY, 10);
        x.setOnHand(0, 2);
        x.setDemand(0, 2, 25);
        x.setReceipt(0, 2, 4);
        x.setDemand(1, 1, 8);
        x.plan();
        Map<String, Long> before = Check.answers(x);
        // DEMAND, RECEIPT, GROSS, NET, PLANNED, RELEASE, PROJECTED.
        cell(check, x, 0, 0, 0, 0, 0, 0, 0, 0, 2);
        cell(check, x, 0, 1, 0, 0, 0, 0, 0, 20, 2);
        cell(check, x, 0, 2, 25, 4, 25, 19, 20, 0, 1);
        cell(check, x, 0, 4, 0, 0, 0, 0, 0, 0, 1);
        cell(check, x, 1, 1, 8, 0, 68, 68, 68, 68, 0);
        wrongArguments(check, x);
        check.dueChanged("getCell", before, x);

        x.setOnHand(1, 0);
        cell(check, x, 0, 2, 25, 4, 0, 0, 0, 0, 0);
        cell(check, x, 1, 1, 8, 0, 0, 0, 0, 0, 0);
        check.end();
    }

    private static void cell(Check check, MrpPlanner x, int item, int period, long... want) {
        for (int field = 0; field < want.length; field++) {
            String call = "getCell(" + item + ", " + period + ", " + field + ")";
            check.due(call, x.getCell(item, period, field), want[field]);
        }
    }

    private static void wrongArguments(Check check, MrpPlanner x) {
        for (int bad : new int[] {Integer.MIN_VALUE, -16, -1, 2, 5, 16, Integer.MAX_VALUE}) {
            for (int field = -1; field < 8; field++) {
                check.due("getCell(" + bad + ", 2, " + field + ")", x.getCell(bad, 2, field), 0);
            }
        }
        for (int bad : new int[] {Integer.MIN_VALUE, -15, -14, -1, 5, 16, 17, 18, Integer.MAX_VALUE}) {
            for (int field = -1; field < 8; field++) {
                check.due("getCell(0, " + bad + ", " + field + ")", x.getCell(0, bad, field), 0);
                check.due("getCell(1, " + bad + ", " + field + ")", x.getCell(1, bad, field), 0);
            }
        }
        for (int bad : new int[] {Integer.MIN_VALUE, -1, 7, 8, Integer.MAX_VALUE}) {
            check.due("getCell(0, 2, " + bad + ")", x.getCell(0, 2, bad), 0);
        }
    }
}

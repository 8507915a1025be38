import java.util.Map;

/** What setReceipt and setDemand are both asked to do, over Samples.busy(). */
final class CellSetterCases {
    interface Setter {
        boolean set(MrpPlanner x, int item, int period, int qty);
    }

    private final Check check;
    private final String name;
    private final int field;
    private final String fieldName;
    private final Setter setter;

    CellSetterCases(Check check, String name, int field, String fieldName, Setter setter) {
        this.check = check;
        this.name = name;
        this.field = field;
        this.fieldName = fieldName;
        this.setter = setter;
    }

    void run() {
        MrpPlanner x = Samples.busy();
        for (int bad : new int[] {-1, 4, 16, Integer.MIN_VALUE, Integer.MAX_VALUE}) {
            refused(x, bad, 1, 1);
        }
        for (int bad : new int[] {-1, 6, 16, Integer.MIN_VALUE, Integer.MAX_VALUE}) {
            refused(x, 1, bad, 1);
        }
        for (int bad : new int[] {-1, 100001, Integer.MIN_VALUE, Integer.MAX_VALUE}) {
            refused(x, 1, 1, bad);
        }
        for (int qty : new int[] {0, 1, 99999, 100000}) {
            stored(0, 1, qty);
            stored(3, 5, qty);
            stored(2, 0, qty);
        }
        sameValue();
        replaced();
    }

    private String call(int item, int period, int qty) {
        return name + "(" + item + ", " + period + ", " + qty + ")";
    }

    private void refused(MrpPlanner x, int item, int period, int qty) {
        String call = call(item, period, qty);
        Map<String, Long> before = Check.answers(x);
        check.due(call, setter.set(x, item, period, qty), false);
        check.dueChanged(call, before, x);
    }

    private void stored(int item, int period, int qty) {
        MrpPlanner x = Samples.busy();
        String call = call(item, period, qty);
        Map<String, Long> before = Check.answers(x);
        String cell = fieldName + " " + item + " " + period;
        check.due(call, setter.set(x, item, period, qty), true);
        if (before.get(cell) == qty) {
            check.dueDiscarded(call, before, x);
        } else {
            check.dueDiscarded(call, before, x, cell);
        }
        check.due(call + ": " + cell, x.getCell(item, period, field), qty);
    }

    private void sameValue() {
        stored(2, 3, (int) Samples.busy().getCell(2, 3, field));
    }

    private void replaced() {
        MrpPlanner x = new MrpPlanner(2, 4);
        setter.set(x, 1, 2, 70);
        setter.set(x, 1, 2, 30);
        check.dueRow(x, 1, field, 0, 0, 30, 0);
        check.dueRow(x, 0, field, 0, 0, 0, 0);
    }
}

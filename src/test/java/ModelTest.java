/**
 * Long mixed runs of calls, each answer held against Model's, and now and then
 * the laws that promises 8 and 9 state of a kept plan. The runs are the same each time.
 */
public final class ModelTest {
    private static final int RUNS = 500;
    private static final int CALLS = 120;
    private static final int[] ODD = {
        Integer.MIN_VALUE, -1, 0, 1, 8, 9, 10, 15, 16, 17, 10000, 10001, 100000, 100001, Integer.MAX_VALUE};

    private final Check check = new Check();
    private long seed;
    private MrpPlanner x;
    private Model model;
    private int items;
    private int periods;
    private boolean scrapped;
    private int kept = 0;
    private int tooLarge = 0;
    private int full = 0;

    public static void main(String[] args) {
        new ModelTest().all();
    }

    private void all() {
        for (int run = 1; run <= RUNS; run++) {
            one(run);
        }
        // Runs that never reach a part of the document would prove nothing of it.
        check.due("many plans were kept: " + kept, kept > 3000, true);
        check.due("many plans were too large: " + tooLarge, tooLarge > 50, true);
        check.due("many edges found the bill full: " + full, full > 50, true);
        check.end();
    }

    private int below(int bound) {
        seed = seed * 6364136223846793005L + 1442695040888963407L;
        return (int) ((seed >>> 33) % bound);
    }

    /** Mostly a value of least..greatest, now and then an odd one. */
    private int about(int least, int greatest) {
        if (below(40) == 0) {
            return ODD[below(ODD.length)];
        }
        return least + below(greatest - least + 1);
    }

    private int item() {
        return about(0, items - 1);
    }

    private int period() {
        return about(0, periods - 1);
    }

    private int quantity() {
        int[] greatest = {0, 9, 300, 100000};
        return about(0, greatest[below(4)]);
    }

    private void one(int run) {
        seed = run;
        int wantItems = about(1, 16);
        int wantPeriods = about(4, 16);
        x = new MrpPlanner(wantItems, wantPeriods);
        model = new Model(wantItems, wantPeriods);
        items = model.getCount(MrpPlanner.COUNT_ITEMS);
        periods = model.getCount(MrpPlanner.COUNT_PERIODS);
        if (run % 10 == 0) {
            chain();
        }
        if (run % 10 == 5) {
            crowd();
        }
        for (int k = 0; k < CALLS; k++) {
            call("run " + run + ", call " + k + ": ");
            sameCounts("run " + run + " after call " + k + ": ");
        }
        sameAnswers("run " + run + " at its end: ");
    }

    /** Steep enough that many of its plans come near LIMIT or above it. */
    private void chain() {
        for (int i = 0; i + 1 < items; i++) {
            int usage = 4 + below(6);
            check.due("a link", x.addComponent(i, i + 1, usage), model.addComponent(i, i + 1, usage));
        }
    }

    /** So many edges that the bill is soon full. */
    private void crowd() {
        for (int child = 1; child < items; child++) {
            for (int parent = 0; parent < child && model.getCount(MrpPlanner.COUNT_EDGES) < 28; parent++) {
                check.due("an edge", x.addComponent(parent, child, 1), model.addComponent(parent, child, 1));
            }
        }
    }

    private void call(String at) {
        int kind = below(20);
        if (kind < 6) {
            int parent = item();
            int child = item();
            int usage = about(1, 9);
            int due = model.addComponent(parent, child, usage);
            full += due == MrpPlanner.ERR_FULL ? 1 : 0;
            check.due(at + "addComponent(" + parent + ", " + child + ", " + usage + ")",
                x.addComponent(parent, child, usage), due);
        } else if (kind < 7) {
            int parent = item();
            int child = item();
            check.due(at + "removeComponent(" + parent + ", " + child + ")",
                x.removeComponent(parent, child), model.removeComponent(parent, child));
        } else if (kind < 13) {
            editItem(at, kind);
        } else if (kind < 16) {
            planned(at);
        } else if (kind < 19) {
            check.due(at + "step()", x.step(), model.step());
        } else {
            int item = item();
            int qty = about(1, 500);
            boolean due = model.scrap(item, qty);
            scrapped |= due;
            check.due(at + "scrap(" + item + ", " + qty + ")", x.scrap(item, qty), due);
        }
    }

    private void editItem(String at, int kind) {
        int item = item();
        int qty = quantity();
        int period = period();
        if (kind < 9) {
            int lead = about(0, 8);
            int rule = about(0, 2);
            int param = rule == MrpPlanner.FIXED_QTY ? about(1, 60) : about(1, 8);
            check.due(at + "setItem(" + item + ", " + lead + ", " + rule + ", " + param + ")",
                x.setItem(item, lead, rule, param), model.setItem(item, lead, rule, param));
        } else if (kind < 10) {
            check.due(at + "setOnHand(" + item + ", " + qty + ")",
                x.setOnHand(item, qty), model.setOnHand(item, qty));
        } else if (kind < 11) {
            check.due(at + "setReceipt(" + item + ", " + period + ", " + qty + ")",
                x.setReceipt(item, period, qty), model.setReceipt(item, period, qty));
        } else {
            check.due(at + "setDemand(" + item + ", " + period + ", " + qty + ")",
                x.setDemand(item, period, qty), model.setDemand(item, period, qty));
        }
    }

    private void planned(String at) {
        int due = model.plan();
        check.due(at + "plan()", x.plan(), due);
        scrapped = false;
        sameAnswers(at);
        if (due == MrpPlanner.OK) {
            kept++;
            planLaws(at);
        } else {
            tooLarge++;
        }
    }

    private void sameCounts(String at) {
        for (int what = -1; what <= 4; what++) {
            check.due(at + "getCount(" + what + ")", x.getCount(what), model.getCount(what));
        }
        for (int i = 0; i < items; i++) {
            long stock = x.getItem(i, MrpPlanner.ITEM_STOCK);
            check.due(at + "STOCK of " + i, stock, model.getItem(i, MrpPlanner.ITEM_STOCK));
            int current = x.getCount(MrpPlanner.COUNT_CURRENT);
            if (!scrapped && current > 0) {
                check.due(at + "STOCK of " + i + " as projected",
                    stock, x.getCell(i, current - 1, MrpPlanner.CELL_PROJECTED));
            }
        }
    }

    private void sameAnswers(String at) {
        for (int i = -1; i <= 16; i++) {
            for (int field = -1; field <= 7; field++) {
                check.due(at + "getItem(" + i + ", " + field + ")", x.getItem(i, field), model.getItem(i, field));
                for (int t = -1; t <= 16; t++) {
                    check.due(at + "getCell(" + i + ", " + t + ", " + field + ")",
                        x.getCell(i, t, field), model.getCell(i, t, field));
                }
            }
            for (int child = -1; child <= 16; child++) {
                check.due(at + "getUsage(" + i + ", " + child + ")", x.getUsage(i, child), model.getUsage(i, child));
            }
        }
    }

    private void planLaws(String at) {
        for (int i = 0; i < items; i++) {
            long plannedSum = 0;
            long releaseSum = 0;
            for (int t = 0; t < periods; t++) {
                plannedSum += x.getCell(i, t, MrpPlanner.CELL_PLANNED);
                releaseSum += x.getCell(i, t, MrpPlanner.CELL_RELEASE);
                long due = x.getCell(i, t, MrpPlanner.CELL_DEMAND);
                for (int p = 0; p < items; p++) {
                    due += x.getUsage(p, i) * x.getCell(p, t, MrpPlanner.CELL_RELEASE);
                }
                check.due(at + "GROSS of " + i + " in " + t, x.getCell(i, t, MrpPlanner.CELL_GROSS), due);
                check.due(at + "PROJECTED of " + i + " in " + t + " is 0 or more",
                    x.getCell(i, t, MrpPlanner.CELL_PROJECTED) >= 0, true);
            }
            check.due(at + "sum of RELEASE of " + i, releaseSum, plannedSum);
        }
    }
}

import java.util.Map;
import java.util.TreeMap;

/**
 * The document written down a second time, for ModelTest: with maps, recursion
 * and plain sums, sharing no idea with MrpPlanner beyond the document itself.
 */
final class Model {
    private final int items;
    private final int periods;
    private final Map<Integer, Map<Integer, Integer>> bill = new TreeMap<>();
    private final int[][] itemData;
    private final int[][] demand;
    private final int[][] receipt;
    private Plan plan = null;

    /** The values of one plan() that went well, and how far it is executed. */
    private static final class Plan {
        final long[][][] cells;
        final long[] pastDue;
        final long[] stock;
        int current = 0;

        Plan(int items, int periods) {
            cells = new long[7][items][periods];
            pastDue = new long[items];
            stock = new long[items];
        }
    }

    Model(int items, int periods) {
        this.items = Math.min(16, Math.max(1, items));
        this.periods = Math.min(16, Math.max(4, periods));
        itemData = new int[this.items][4];
        demand = new int[this.items][this.periods];
        receipt = new int[this.items][this.periods];
        for (int i = 0; i < this.items; i++) {
            bill.put(i, new TreeMap<>());
        }
    }

    int addComponent(int parent, int child, int usage) {
        if (!bill.containsKey(parent) || !bill.containsKey(child) || usage < 1 || usage > 9) {
            return MrpPlanner.ERR_RANGE;
        }
        if (parent == child) {
            return MrpPlanner.ERR_CYCLE;
        }
        if (!bill.get(parent).containsKey(child)) {
            if (edges() == MrpPlanner.MAX_EDGES) {
                return MrpPlanner.ERR_FULL;
            }
            if (leads(child, parent)) {
                return MrpPlanner.ERR_CYCLE;
            }
        }
        bill.get(parent).put(child, usage);
        plan = null;
        return MrpPlanner.OK;
    }

    boolean removeComponent(int parent, int child) {
        boolean there = bill.containsKey(parent) && bill.get(parent).remove(child) != null;
        return edited(there);
    }

    boolean setItem(int item, int lead, int rule, int param) {
        boolean good = bill.containsKey(item) && lead >= 0 && lead <= 8
            && (rule == MrpPlanner.LOT_FOR_LOT
                || rule == MrpPlanner.FIXED_QTY && param >= 1 && param <= 10000
                || rule == MrpPlanner.PERIOD_ORDER && param >= 1 && param <= 8);
        if (good) {
            itemData[item][MrpPlanner.ITEM_LEAD] = lead;
            itemData[item][MrpPlanner.ITEM_RULE] = rule;
            itemData[item][MrpPlanner.ITEM_PARAM] = rule == MrpPlanner.LOT_FOR_LOT ? 0 : param;
        }
        return edited(good);
    }

    boolean setOnHand(int item, int qty) {
        boolean good = bill.containsKey(item) && qty >= 0 && qty <= 100000;
        if (good) {
            itemData[item][MrpPlanner.ITEM_ONHAND] = qty;
        }
        return edited(good);
    }

    boolean setReceipt(int item, int period, int qty) {
        return setCell(receipt, item, period, qty);
    }

    boolean setDemand(int item, int period, int qty) {
        return setCell(demand, item, period, qty);
    }

    int plan() {
        plan = null;
        Plan next = new Plan(items, periods);
        for (int level = 0; level < items; level++) {
            for (int i = 0; i < items; i++) {
                if (level(i) == level && !planItem(next, i)) {
                    return MrpPlanner.PLAN_TOO_LARGE;
                }
            }
        }
        for (int i = 0; i < items; i++) {
            next.stock[i] = itemData[i][MrpPlanner.ITEM_ONHAND];
        }
        plan = next;
        return MrpPlanner.OK;
    }

    int step() {
        if (plan == null) {
            return MrpPlanner.STEP_NO_PLAN;
        }
        int t = plan.current;
        if (t == periods) {
            return MrpPlanner.STEP_DONE;
        }
        int below = 0;
        for (int i = 0; i < items; i++) {
            plan.stock[i] += receipt[i][t] + plan.cells[MrpPlanner.CELL_PLANNED][i][t]
                - demand[i][t] - takenByParents(plan, i, t);
            below += plan.stock[i] < 0 ? 1 : 0;
        }
        plan.current++;
        return below;
    }

    boolean scrap(int item, int qty) {
        if (plan == null || !bill.containsKey(item) || qty < 1 || qty > 100000) {
            return false;
        }
        plan.stock[item] -= qty;
        return true;
    }

    int getUsage(int parent, int child) {
        return bill.containsKey(parent) ? bill.get(parent).getOrDefault(child, 0) : 0;
    }

    long getItem(int item, int field) {
        if (!bill.containsKey(item) || field < 0 || field > MrpPlanner.ITEM_STOCK) {
            return 0;
        }
        if (field < MrpPlanner.ITEM_LEVEL) {
            return itemData[item][field];
        }
        if (field == MrpPlanner.ITEM_LEVEL) {
            return level(item);
        }
        if (plan == null) {
            return 0;
        }
        return field == MrpPlanner.ITEM_PASTDUE ? plan.pastDue[item] : plan.stock[item];
    }

    long getCell(int item, int period, int field) {
        if (!bill.containsKey(item) || period < 0 || period >= periods
            || field < 0 || field > MrpPlanner.CELL_PROJECTED) {
            return 0;
        }
        if (field == MrpPlanner.CELL_DEMAND) {
            return demand[item][period];
        }
        if (field == MrpPlanner.CELL_RECEIPT) {
            return receipt[item][period];
        }
        return plan == null ? 0 : plan.cells[field][item][period];
    }

    int getCount(int what) {
        int current = plan == null ? -1 : plan.current;
        int[] counts = {items, periods, edges(), current};
        return what >= 0 && what < counts.length ? counts[what] : 0;
    }

    private boolean edited(boolean changed) {
        if (changed) {
            plan = null;
        }
        return changed;
    }

    private boolean setCell(int[][] cells, int item, int period, int qty) {
        boolean good = bill.containsKey(item) && period >= 0 && period < periods && qty >= 0 && qty <= 100000;
        if (good) {
            cells[item][period] = qty;
        }
        return edited(good);
    }

    private int edges() {
        return bill.values().stream().mapToInt(Map::size).sum();
    }

    private boolean leads(int from, int to) {
        return from == to || bill.get(from).keySet().stream().anyMatch(child -> leads(child, to));
    }

    private int level(int item) {
        int level = 0;
        for (int parent = 0; parent < items; parent++) {
            if (bill.get(parent).containsKey(item)) {
                level = Math.max(level, 1 + level(parent));
            }
        }
        return level;
    }

    private long takenByParents(Plan p, int item, int t) {
        long taken = 0;
        for (int parent = 0; parent < items; parent++) {
            taken += getUsage(parent, item) * p.cells[MrpPlanner.CELL_RELEASE][parent][t];
        }
        return taken;
    }

    private boolean planItem(Plan p, int i) {
        long[] gross = p.cells[MrpPlanner.CELL_GROSS][i];
        long[] net = p.cells[MrpPlanner.CELL_NET][i];
        long[] planned = p.cells[MrpPlanner.CELL_PLANNED][i];
        long[] release = p.cells[MrpPlanner.CELL_RELEASE][i];
        long[] projected = p.cells[MrpPlanner.CELL_PROJECTED][i];
        for (int t = 0; t < periods; t++) {
            gross[t] = demand[i][t] + takenByParents(p, i, t);
            if (gross[t] > MrpPlanner.LIMIT) {
                return false;
            }
        }
        for (int t = 0; t < periods; t++) {
            long prev = t == 0 ? itemData[i][MrpPlanner.ITEM_ONHAND] : projected[t - 1];
            net[t] = Math.max(0, gross[t] - receipt[i][t] - prev);
            planned[t] = net[t] == 0 ? 0 : lot(i, t, net[t], gross, prev);
            projected[t] = prev + receipt[i][t] + planned[t] - gross[t];
            int r = t - itemData[i][MrpPlanner.ITEM_LEAD];
            release[Math.max(0, r)] += planned[t];
            p.pastDue[i] += r < 0 ? planned[t] : 0;
        }
        return true;
    }

    private long lot(int i, int t, long net, long[] gross, long prev) {
        int param = itemData[i][MrpPlanner.ITEM_PARAM];
        switch (itemData[i][MrpPlanner.ITEM_RULE]) {
            case MrpPlanner.LOT_FOR_LOT:
                return net;
            case MrpPlanner.FIXED_QTY:
                return net % param == 0 ? net : (net / param + 1) * param;
            default:
                long greatest = Long.MIN_VALUE;
                for (int s = t; s <= Math.min(t + param - 1, periods - 1); s++) {
                    long sum = 0;
                    for (int k = t; k <= s; k++) {
                        sum += gross[k] - receipt[i][k];
                    }
                    greatest = Math.max(greatest, sum - prev);
                }
                return greatest;
        }
    }
}

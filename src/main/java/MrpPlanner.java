public final class MrpPlanner {
    public static final int LOT_FOR_LOT = 0;
    public static final int FIXED_QTY = 1;
    public static final int PERIOD_ORDER = 2;

    public static final int OK = 0;
    public static final int ERR_RANGE = -1;
    public static final int ERR_CYCLE = -2;
    public static final int ERR_FULL = -3;
    public static final int PLAN_TOO_LARGE = -4;

    public static final int STEP_NO_PLAN = -1;
    public static final int STEP_DONE = -2;

    public static final int MAX_EDGES = 32;
    public static final long LIMIT = 1000000000000L;

    public static final int ITEM_LEAD = 0;
    public static final int ITEM_RULE = 1;
    public static final int ITEM_PARAM = 2;
    public static final int ITEM_ONHAND = 3;
    public static final int ITEM_LEVEL = 4;
    public static final int ITEM_PASTDUE = 5;
    public static final int ITEM_STOCK = 6;

    public static final int CELL_DEMAND = 0;
    public static final int CELL_RECEIPT = 1;
    public static final int CELL_GROSS = 2;
    public static final int CELL_NET = 3;
    public static final int CELL_PLANNED = 4;
    public static final int CELL_RELEASE = 5;
    public static final int CELL_PROJECTED = 6;

    public static final int COUNT_ITEMS = 0;
    public static final int COUNT_PERIODS = 1;
    public static final int COUNT_EDGES = 2;
    public static final int COUNT_CURRENT = 3;

    private static final int MIN_ITEMS = 1;
    private static final int MAX_ITEMS = 16;
    private static final int MIN_PERIODS = 4;
    private static final int MAX_PERIODS = 16;
    // Pairs and cells are held in rows of MAX_ITEMS and MAX_PERIODS, whatever
    // the object's own sizes are: an array's length must be a constant.
    private static final int MAX_PAIRS = MAX_ITEMS * MAX_ITEMS;
    private static final int MAX_CELLS = MAX_ITEMS * MAX_PERIODS;

    private static final int MAX_USAGE = 9;
    private static final int MAX_LEAD = 8;
    private static final int MAX_FIXED_QTY = 10000;
    private static final int MAX_ORDER_PERIODS = 8;
    private static final int MAX_QTY = 100000;

    private static final int NO_PLAN = -1;

    private final int itemCount;
    private final int periodCount;

    private final int[] leads = new int[MAX_ITEMS];
    private final int[] rules = new int[MAX_ITEMS];
    private final int[] params = new int[MAX_ITEMS];
    private final int[] onHands = new int[MAX_ITEMS];
    private final int[] demands = new int[MAX_CELLS];
    private final int[] receipts = new int[MAX_CELLS];

    // A usage of 0 stands for a pair without an edge.
    private final int[] usages = new int[MAX_PAIRS];
    private int edgeCount = 0;
    private final int[] levels = new int[MAX_ITEMS];
    private final boolean[] reached = new boolean[MAX_ITEMS];

    // The plan arrays keep old values after a discard, so that a discard is
    // one assignment; every getter of them looks at hasPlan first.
    private final long[] gross = new long[MAX_CELLS];
    private final long[] net = new long[MAX_CELLS];
    private final long[] planned = new long[MAX_CELLS];
    private final long[] release = new long[MAX_CELLS];
    private final long[] projected = new long[MAX_CELLS];
    private final long[] pastDue = new long[MAX_ITEMS];
    private final long[] stock = new long[MAX_ITEMS];
    private int current = NO_PLAN;

    public MrpPlanner(int items, int periods) {
        itemCount = clamp(items, MIN_ITEMS, MAX_ITEMS);
        periodCount = clamp(periods, MIN_PERIODS, MAX_PERIODS);
    }

    public int addComponent(int parent, int child, int usage) {
        if (!isItem(parent) || !isItem(child) || !isWithin(usage, 1, MAX_USAGE)) {
            return ERR_RANGE;
        }
        if (parent == child) {
            return ERR_CYCLE;
        }
        int pair = pairIndex(parent, child);
        if (usages[pair] == 0) {
            if (edgeCount >= MAX_EDGES) {
                return ERR_FULL;
            }
            if (leadsDownTo(child, parent)) {
                return ERR_CYCLE;
            }
            edgeCount++;
        }
        usages[pair] = usage;
        findLevels();
        discardPlan();
        return OK;
    }

    public boolean removeComponent(int parent, int child) {
        if (!isItem(parent) || !isItem(child)) {
            return false;
        }
        int pair = pairIndex(parent, child);
        if (usages[pair] == 0) {
            return false;
        }
        usages[pair] = 0;
        edgeCount--;
        findLevels();
        discardPlan();
        return true;
    }

    public boolean setItem(int item, int lead, int rule, int param) {
        if (!isItem(item) || !isWithin(lead, 0, MAX_LEAD) || !isLotRule(rule, param)) {
            return false;
        }
        leads[item] = lead;
        rules[item] = rule;
        params[item] = rule == LOT_FOR_LOT ? 0 : param;
        discardPlan();
        return true;
    }

    public boolean setOnHand(int item, int qty) {
        if (!isItem(item) || !isWithin(qty, 0, MAX_QTY)) {
            return false;
        }
        onHands[item] = qty;
        discardPlan();
        return true;
    }

    public boolean setReceipt(int item, int period, int qty) {
        if (!isItem(item) || !isPeriod(period) || !isWithin(qty, 0, MAX_QTY)) {
            return false;
        }
        receipts[cellIndex(item, period)] = qty;
        discardPlan();
        return true;
    }

    public boolean setDemand(int item, int period, int qty) {
        if (!isItem(item) || !isPeriod(period) || !isWithin(qty, 0, MAX_QTY)) {
            return false;
        }
        demands[cellIndex(item, period)] = qty;
        discardPlan();
        return true;
    }

    public int plan() {
        discardPlan();
        // No chain of edges is longer than itemCount - 1, so no level is.
        for (int level = 0; level < itemCount; level++) {
            if (!planLevel(level)) {
                return PLAN_TOO_LARGE;
            }
        }
        startExecution();
        return OK;
    }

    public int step() {
        if (!hasPlan()) {
            return STEP_NO_PLAN;
        }
        if (current >= periodCount) {
            return STEP_DONE;
        }
        int below = 0;
        for (int item = 0; item < itemCount; item++) {
            int cell = cellIndex(item, current);
            // GROSS is the demand plus what the parents' releases take: no
            // edit has come since plan(), or there would be no plan.
            stock[item] += receipts[cell] + planned[cell] - gross[cell];
            if (stock[item] < 0) {
                below++;
            }
        }
        current++;
        return below;
    }

    public boolean scrap(int item, int qty) {
        if (!hasPlan() || !isItem(item) || !isWithin(qty, 1, MAX_QTY)) {
            return false;
        }
        stock[item] -= qty;
        return true;
    }

    public int getUsage(int parent, int child) {
        if (!isItem(parent) || !isItem(child)) {
            return 0;
        }
        return usages[pairIndex(parent, child)];
    }

    public long getItem(int item, int field) {
        if (!isItem(item)) {
            return 0;
        }
        switch (field) {
            case ITEM_LEAD:
                return leads[item];
            case ITEM_RULE:
                return rules[item];
            case ITEM_PARAM:
                return params[item];
            case ITEM_ONHAND:
                return onHands[item];
            case ITEM_LEVEL:
                return levels[item];
            case ITEM_PASTDUE:
                return hasPlan() ? pastDue[item] : 0;
            case ITEM_STOCK:
                return hasPlan() ? stock[item] : 0;
            default:
                return 0;
        }
    }

    public long getCell(int item, int period, int field) {
        if (!isItem(item) || !isPeriod(period)) {
            return 0;
        }
        int cell = cellIndex(item, period);
        if (field == CELL_DEMAND) {
            return demands[cell];
        }
        if (field == CELL_RECEIPT) {
            return receipts[cell];
        }
        return hasPlan() ? planValue(cell, field) : 0;
    }

    public int getCount(int what) {
        switch (what) {
            case COUNT_ITEMS:
                return itemCount;
            case COUNT_PERIODS:
                return periodCount;
            case COUNT_EDGES:
                return edgeCount;
            case COUNT_CURRENT:
                return current;
            default:
                return 0;
        }
    }

    private static int clamp(int value, int least, int greatest) {
        if (value < least) {
            return least;
        }
        return value > greatest ? greatest : value;
    }

    private static boolean isWithin(int value, int least, int greatest) {
        return value >= least && value <= greatest;
    }

    private boolean isItem(int item) {
        return item >= 0 && item < itemCount;
    }

    private boolean isPeriod(int period) {
        return period >= 0 && period < periodCount;
    }

    private static boolean isLotRule(int rule, int param) {
        switch (rule) {
            case LOT_FOR_LOT:
                return true;
            case FIXED_QTY:
                return isWithin(param, 1, MAX_FIXED_QTY);
            case PERIOD_ORDER:
                return isWithin(param, 1, MAX_ORDER_PERIODS);
            default:
                return false;
        }
    }

    private static int pairIndex(int parent, int child) {
        return parent * MAX_ITEMS + child;
    }

    private static int cellIndex(int item, int period) {
        return item * MAX_PERIODS + period;
    }

    private boolean hasPlan() {
        return current != NO_PLAN;
    }

    private void discardPlan() {
        current = NO_PLAN;
    }

    private long planValue(int cell, int field) {
        switch (field) {
            case CELL_GROSS:
                return gross[cell];
            case CELL_NET:
                return net[cell];
            case CELL_PLANNED:
                return planned[cell];
            case CELL_RELEASE:
                return release[cell];
            case CELL_PROJECTED:
                return projected[cell];
            default:
                return 0;
        }
    }

    private boolean leadsDownTo(int from, int to) {
        for (int item = 0; item < itemCount; item++) {
            reached[item] = item == from;
        }
        // Each round goes at least one edge further down, and no chain has
        // as many edges as there are items.
        for (int round = 1; round < itemCount; round++) {
            reachChildren();
        }
        return reached[to];
    }

    private void reachChildren() {
        for (int parent = 0; parent < itemCount; parent++) {
            for (int child = 0; child < itemCount; child++) {
                if (reached[parent] && usages[pairIndex(parent, child)] > 0) {
                    reached[child] = true;
                }
            }
        }
    }

    private void findLevels() {
        for (int item = 0; item < itemCount; item++) {
            levels[item] = 0;
        }
        // As in leadsDownTo: after the last round the longest chain is through.
        for (int round = 1; round < itemCount; round++) {
            pushChildrenDown();
        }
    }

    private void pushChildrenDown() {
        for (int parent = 0; parent < itemCount; parent++) {
            for (int child = 0; child < itemCount; child++) {
                if (usages[pairIndex(parent, child)] > 0 && levels[child] <= levels[parent]) {
                    levels[child] = levels[parent] + 1;
                }
            }
        }
    }

    private boolean planLevel(int level) {
        for (int item = 0; item < itemCount; item++) {
            if (levels[item] == level) {
                if (!findGross(item)) {
                    return false;
                }
                findPlanned(item);
                findReleases(item);
            }
        }
        return true;
    }

    // Answers whether every GROSS is within LIMIT.
    private boolean findGross(int item) {
        for (int period = 0; period < periodCount; period++) {
            int cell = cellIndex(item, period);
            gross[cell] = demands[cell] + parentsTake(item, period);
            if (gross[cell] > LIMIT) {
                return false;
            }
        }
        return true;
    }

    private long parentsTake(int item, int period) {
        long sum = 0;
        for (int parent = 0; parent < itemCount; parent++) {
            // Where there is no edge, RELEASE may be left over from an older
            // plan; the usage of 0 keeps it out.
            sum += usages[pairIndex(parent, item)] * release[cellIndex(parent, period)];
        }
        return sum;
    }

    private void findPlanned(int item) {
        long before = onHands[item];
        for (int period = 0; period < periodCount; period++) {
            int cell = cellIndex(item, period);
            long lack = gross[cell] - receipts[cell] - before;
            net[cell] = lack > 0 ? lack : 0;
            planned[cell] = lack > 0 ? lotSize(item, period, before) : 0;
            projected[cell] = before + receipts[cell] + planned[cell] - gross[cell];
            before = projected[cell];
        }
    }

    private long lotSize(int item, int period, long before) {
        int cell = cellIndex(item, period);
        int param = params[item];
        // setItem lets no 0 in here; LANGUAGE.md wants a divisor looked at.
        if (rules[item] == FIXED_QTY && param > 0) {
            return (net[cell] + param - 1) / param * param;
        }
        if (rules[item] == PERIOD_ORDER) {
            int left = periodCount - period;
            int span = param < left ? param : left;
            return greatestLack(cell, span, before);
        }
        return net[cell];
    }

    // The lot must cover the worst point of its periods, not just their end:
    // a receipt late in them does not help the periods before it.
    private long greatestLack(int firstCell, int span, long before) {
        long lack = -before;
        long greatest = 0;
        for (int k = 0; k < span; k++) {
            int cell = firstCell + k;
            lack += gross[cell] - receipts[cell];
            if (lack > greatest) {
                greatest = lack;
            }
        }
        return greatest;
    }

    private void findReleases(int item) {
        pastDue[item] = 0;
        for (int period = 0; period < periodCount; period++) {
            release[cellIndex(item, period)] = 0;
        }
        for (int period = 0; period < periodCount; period++) {
            long lot = planned[cellIndex(item, period)];
            int start = period - leads[item];
            if (start < 0) {
                start = 0;
                pastDue[item] += lot;
            }
            release[cellIndex(item, start)] += lot;
        }
    }

    private void startExecution() {
        for (int item = 0; item < itemCount; item++) {
            stock[item] = onHands[item];
        }
        current = 0;
    }
}

import java.lang.reflect.Field;
import java.lang.reflect.Modifier;
import java.util.Map;

/** The numbers of the constants are written out here: a caller may have them in its own class file. */
public final class WhatItIsTest {
    public static void main(String[] args) {
        Section section = new Section("What it is");
        section.test("MrpPlanner is a small material requirements planning engine for a factory.",
            WhatItIsTest::plansAFactory);
        section.test("It holds N items, numbered 0..N-1, over a horizon of P periods, numbered 0..P-1, together with"
                + " a cycle-free bill of materials and, for each item, a lead time, a lot rule, a lot parameter,"
                + " an on-hand stock at the start, and per-period external demand and scheduled receipts.",
            WhatItIsTest::holdsItsData);
        section.test("plan() explodes the bill level by level: for each item it computes gross requirements,"
                + " net requirements, lot-sized planned receipts and projected stock, and offsets the planned"
                + " receipts by the lead time into releases.",
            WhatItIsTest::explodesTheBill);
        section.test("Releases that would fall before period 0 are moved to period 0 and reported as past due.",
            WhatItIsTest::pastDue);
        section.test("An executor then steps through the periods, keeping a running STOCK per item,"
                + " which scrap() can disturb.",
            WhatItIsTest::executes);
        section.test("Getters expose every input, every plan value, the low-level codes, the past-due quantities,"
                + " the executed stock and the current period.",
            WhatItIsTest::exposesAll);
        section.test("Public constants:",
            WhatItIsTest::noOtherConstants);
        section.test("Lot rules: LOT_FOR_LOT = 0, FIXED_QTY = 1, PERIOD_ORDER = 2.",
            WhatItIsTest::lotRules);
        section.test("Status answers of addComponent and plan: OK = 0, ERR_RANGE = -1, ERR_CYCLE = -2, ERR_FULL = -3,"
                + " PLAN_TOO_LARGE = -4.",
            WhatItIsTest::statusAnswers);
        section.test("Error answers of step: STEP_NO_PLAN = -1, STEP_DONE = -2.",
            WhatItIsTest::stepAnswers);
        section.test("Limits: MAX_EDGES = 32, LIMIT = 1000000000000L (10^12).",
            WhatItIsTest::limits);
        section.test("Fields of getItem: ITEM_LEAD = 0, ITEM_RULE = 1, ITEM_PARAM = 2, ITEM_ONHAND = 3,"
                + " ITEM_LEVEL = 4, ITEM_PASTDUE = 5, ITEM_STOCK = 6.",
            WhatItIsTest::itemFields);
        section.test("Fields of getCell: CELL_DEMAND = 0, CELL_RECEIPT = 1, CELL_GROSS = 2, CELL_NET = 3,"
                + " CELL_PLANNED = 4, CELL_RELEASE = 5, CELL_PROJECTED = 6.",
            WhatItIsTest::cellFields);
        section.test("Kinds of getCount: COUNT_ITEMS = 0, COUNT_PERIODS = 1, COUNT_EDGES = 2, COUNT_CURRENT = 3.",
            WhatItIsTest::countKinds);
        section.end();
    }

    /** Tables, item 0, of one top, item 1, and four legs, item 2; a leg takes two screws, item 3, a top eight. */
    private static MrpPlanner tables() {
        MrpPlanner x = new MrpPlanner(4, 5);
        x.addComponent(0, 1, 1);
        x.addComponent(0, 2, 4);
        x.addComponent(1, 3, 8);
        x.addComponent(2, 3, 2);
        x.setItem(0, 1, 0, 0);
        x.setItem(1, 1, 2, 2);
        x.setItem(2, 2, 1, 30);
        x.setItem(3, 0, 1, 100);
        x.setOnHand(0, 3);
        x.setOnHand(2, 6);
        x.setReceipt(3, 1, 40);
        x.setDemand(0, 3, 10);
        x.setDemand(0, 4, 5);
        x.setDemand(2, 1, 1);
        return x;
    }

    private static void plansAFactory(Check check) {
        MrpPlanner x = new MrpPlanner(2, 4);
        x.addComponent(0, 1, 4);
        x.setItem(0, 1, 0, 0);
        x.setItem(1, 2, 0, 0);
        x.setDemand(0, 3, 25);
        check.due("plan()", x.plan(), 0);
        check.dueRow(x, 0, MrpPlanner.CELL_RELEASE, 0, 0, 25, 0);
        check.dueRow(x, 1, MrpPlanner.CELL_RELEASE, 100, 0, 0, 0);
    }

    private static void holdsItsData(Check check) {
        int[][] sizes = {{1, 4}, {4, 6}, {16, 16}};
        for (int[] size : sizes) {
            MrpPlanner x = new MrpPlanner(size[0], size[1]);
            int last = size[0] - 1;
            for (int i = 0; i <= last; i++) {
                check.due("setItem of " + i, x.setItem(i, i % 9, 1, 100 + i), true);
                check.due("setOnHand of " + i, x.setOnHand(i, 200 + i), true);
                for (int t = 0; t < size[1]; t++) {
                    check.due("setDemand of " + i + " in " + t, x.setDemand(i, t, 1000 + 16 * i + t), true);
                    check.due("setReceipt of " + i + " in " + t, x.setReceipt(i, t, 2000 + 16 * i + t), true);
                }
            }
            for (int i = 0; i < last; i++) {
                check.due("the edge below " + i, x.addComponent(i, i + 1, 1 + i % 9), 0);
            }
            check.due("item N", x.setOnHand(size[0], 1), false);
            check.due("period P", x.setDemand(0, size[1], 1), false);
            check.due("a cycle", x.addComponent(last, 0, 1), -2);
            holds(check, x, size[0], size[1]);
        }
    }

    private static void holds(Check check, MrpPlanner x, int items, int periods) {
        for (int i = 0; i < items; i++) {
            check.due("lead of " + i, x.getItem(i, MrpPlanner.ITEM_LEAD), i % 9);
            check.due("rule of " + i, x.getItem(i, MrpPlanner.ITEM_RULE), 1);
            check.due("parameter of " + i, x.getItem(i, MrpPlanner.ITEM_PARAM), 100 + i);
            check.due("on-hand of " + i, x.getItem(i, MrpPlanner.ITEM_ONHAND), 200 + i);
            check.due("usage below " + i, x.getUsage(i, i + 1), i + 1 < items ? 1 + i % 9 : 0);
            for (int t = 0; t < periods; t++) {
                check.due("demand of " + i + " in " + t,
                    x.getCell(i, t, MrpPlanner.CELL_DEMAND), 1000 + 16 * i + t);
                check.due("receipt of " + i + " in " + t,
                    x.getCell(i, t, MrpPlanner.CELL_RECEIPT), 2000 + 16 * i + t);
            }
        }
    }

    private static void explodesTheBill(Check check) {
        MrpPlanner x = tables();
        check.dueLevels(x, 0, 1, 1, 2);
        check.due("plan()", x.plan(), 0);
        duePlan(check, x, 0, new long[][] {
            {0, 0, 0, 10, 5}, {0, 0, 0, 7, 5}, {0, 0, 0, 7, 5}, {0, 0, 7, 5, 0}, {3, 3, 3, 0, 0}});
        duePlan(check, x, 1, new long[][] {
            {0, 0, 7, 5, 0}, {0, 0, 7, 0, 0}, {0, 0, 12, 0, 0}, {0, 12, 0, 0, 0}, {0, 0, 5, 0, 0}});
        duePlan(check, x, 2, new long[][] {
            {0, 1, 28, 20, 0}, {0, 0, 23, 13, 0}, {0, 0, 30, 30, 0}, {30, 30, 0, 0, 0}, {6, 5, 7, 17, 17}});
        duePlan(check, x, 3, new long[][] {
            {60, 156, 0, 0, 0}, {60, 76, 0, 0, 0}, {100, 100, 0, 0, 0}, {100, 100, 0, 0, 0}, {40, 24, 24, 24, 24}});
    }

    /** The rows are GROSS, NET, PLANNED, RELEASE and PROJECTED. */
    private static void duePlan(Check check, MrpPlanner x, int item, long[][] rows) {
        for (int k = 0; k < rows.length; k++) {
            check.dueRow(x, item, MrpPlanner.CELL_GROSS + k, rows[k]);
        }
    }

    private static void pastDue(Check check) {
        MrpPlanner x = tables();
        x.plan();
        for (int i = 0; i < 4; i++) {
            check.due("PASTDUE of " + i + ", all in time", x.getItem(i, MrpPlanner.ITEM_PASTDUE), 0);
        }
        // A period earlier, only the first lot of legs is late.
        x.setItem(0, 2, 0, 0);
        x.plan();
        check.dueRow(x, 0, MrpPlanner.CELL_RELEASE, 0, 7, 5, 0, 0);
        check.dueRow(x, 1, MrpPlanner.CELL_RELEASE, 12, 0, 0, 0, 0);
        check.dueRow(x, 2, MrpPlanner.CELL_PLANNED, 0, 30, 30, 0, 0);
        check.dueRow(x, 2, MrpPlanner.CELL_RELEASE, 60, 0, 0, 0, 0);
        for (int i = 0; i < 4; i++) {
            check.due("PASTDUE of " + i, x.getItem(i, MrpPlanner.ITEM_PASTDUE), i == 2 ? 30 : 0);
        }
    }

    private static void executes(Check check) {
        MrpPlanner x = tables();
        x.plan();
        long[][] stocks = {{3, 0, 6, 0}, {3, 0, 6, 40}, {3, 0, 5, 24}, {3, 5, 7, 24}, {0, 0, 17, 24}, {0, 0, 17, 24}};
        for (int t = 0; t < 5; t++) {
            dueStocks(check, x, "before period " + t, stocks[t]);
            check.due("step() " + t, x.step(), 0);
        }
        dueStocks(check, x, "at the end", stocks[5]);
        x.plan();
        x.step();
        check.due("scrap(3, 30)", x.scrap(3, 30), true);
        dueStocks(check, x, "with screws lost", 3, 0, 6, 10);
        check.due("step() with screws lost", x.step(), 1);
        dueStocks(check, x, "with too few screws", 3, 0, 5, -6);
    }

    private static void dueStocks(Check check, MrpPlanner x, String when, long... want) {
        for (int i = 0; i < want.length; i++) {
            check.due("STOCK of " + i + " " + when, x.getItem(i, MrpPlanner.ITEM_STOCK), want[i]);
        }
    }

    /** Every kind of answer is other than 0 somewhere, so none is left out. */
    private static void exposesAll(Check check) {
        Map<String, Long> all = Check.answers(State.BUSY.make());
        String[] kinds = {
            "ITEMS", "PERIODS", "EDGES", "CURRENT", "USAGE", "LEAD", "RULE", "PARAM", "ONHAND", "LEVEL", "PASTDUE",
            "STOCK", "DEMAND", "RECEIPT", "GROSS", "NET", "PLANNED", "RELEASE", "PROJECTED"};
        for (String kind : kinds) {
            boolean seen = all.entrySet().stream()
                .anyMatch(answer -> answer.getKey().split(" ")[0].equals(kind) && answer.getValue() != 0);
            check.due(kind + " can be asked for", seen, true);
        }
    }

    private static void noOtherConstants(Check check) {
        int constants = 0;
        for (Field field : MrpPlanner.class.getFields()) {
            check.due(field.getName() + " is a constant",
                Modifier.isStatic(field.getModifiers()) && Modifier.isFinal(field.getModifiers()), true);
            constants++;
        }
        check.due("number of public constants", constants, 30);
    }

    private static void lotRules(Check check) {
        check.due("LOT_FOR_LOT", MrpPlanner.LOT_FOR_LOT, 0);
        check.due("FIXED_QTY", MrpPlanner.FIXED_QTY, 1);
        check.due("PERIOD_ORDER", MrpPlanner.PERIOD_ORDER, 2);
        // With parameter 4, each rule makes another lot of the same demands.
        long[] lots = {3, 4, 12};
        for (int rule = 0; rule < 3; rule++) {
            MrpPlanner x = new MrpPlanner(1, 6);
            for (int t = 0; t < 6; t++) {
                x.setDemand(0, t, 3);
            }
            check.due("setItem with rule " + rule, x.setItem(0, 0, rule, 4), true);
            x.plan();
            check.due("ITEM_RULE", x.getItem(0, MrpPlanner.ITEM_RULE), rule);
            check.due("the first lot by rule " + rule, x.getCell(0, 0, MrpPlanner.CELL_PLANNED), lots[rule]);
        }
    }

    private static void statusAnswers(Check check) {
        check.due("OK", MrpPlanner.OK, 0);
        check.due("ERR_RANGE", MrpPlanner.ERR_RANGE, -1);
        check.due("ERR_CYCLE", MrpPlanner.ERR_CYCLE, -2);
        check.due("ERR_FULL", MrpPlanner.ERR_FULL, -3);
        check.due("PLAN_TOO_LARGE", MrpPlanner.PLAN_TOO_LARGE, -4);
        MrpPlanner x = State.FULL.make();
        check.due("addComponent, well", x.addComponent(0, 1, 2), 0);
        check.due("addComponent, out of range", x.addComponent(0, 16, 2), -1);
        check.due("addComponent, to itself", x.addComponent(1, 1, 2), -2);
        check.due("addComponent, too many", x.addComponent(14, 15, 2), -3);
        check.due("plan(), well", x.plan(), 0);
        check.due("plan(), too large", State.TOO_LARGE.make().plan(), -4);
    }

    private static void stepAnswers(Check check) {
        check.due("STEP_NO_PLAN", MrpPlanner.STEP_NO_PLAN, -1);
        check.due("STEP_DONE", MrpPlanner.STEP_DONE, -2);
        check.due("step() without a plan", State.UNPLANNED.make().step(), -1);
        check.due("step() at the end", State.DONE.make().step(), -2);
    }

    private static void limits(Check check) {
        check.due("MAX_EDGES", MrpPlanner.MAX_EDGES, 32);
        check.due("LIMIT", MrpPlanner.LIMIT, 1000L * 1000 * 1000 * 1000);
        check.due("edges of a full bill", Samples.full().getCount(MrpPlanner.COUNT_EDGES), 32);
        MrpPlanner x = Samples.tenMillionfold();
        x.setDemand(0, 0, 100000);
        check.due("plan() of 10^12", x.plan(), 0);
        x.setDemand(10, 0, 1);
        check.due("plan() of 10^12 + 1", x.plan(), -4);
    }

    private static void itemFields(Check check) {
        check.due("ITEM_LEAD", MrpPlanner.ITEM_LEAD, 0);
        check.due("ITEM_RULE", MrpPlanner.ITEM_RULE, 1);
        check.due("ITEM_PARAM", MrpPlanner.ITEM_PARAM, 2);
        check.due("ITEM_ONHAND", MrpPlanner.ITEM_ONHAND, 3);
        check.due("ITEM_LEVEL", MrpPlanner.ITEM_LEVEL, 4);
        check.due("ITEM_PASTDUE", MrpPlanner.ITEM_PASTDUE, 5);
        check.due("ITEM_STOCK", MrpPlanner.ITEM_STOCK, 6);
        MrpPlanner x = new MrpPlanner(2, 4);
        x.addComponent(0, 1, 1);
        x.setItem(1, 8, 2, 7);
        x.setOnHand(1, 50);
        x.setDemand(1, 3, 150);
        x.plan();
        x.scrap(1, 9);
        long[] want = {8, 2, 7, 50, 1, 100, 41};
        for (int field = 0; field < 7; field++) {
            check.due("getItem(1, " + field + ")", x.getItem(1, field), want[field]);
        }
    }

    private static void cellFields(Check check) {
        check.due("CELL_DEMAND", MrpPlanner.CELL_DEMAND, 0);
        check.due("CELL_RECEIPT", MrpPlanner.CELL_RECEIPT, 1);
        check.due("CELL_GROSS", MrpPlanner.CELL_GROSS, 2);
        check.due("CELL_NET", MrpPlanner.CELL_NET, 3);
        check.due("CELL_PLANNED", MrpPlanner.CELL_PLANNED, 4);
        check.due("CELL_RELEASE", MrpPlanner.CELL_RELEASE, 5);
        check.due("CELL_PROJECTED", MrpPlanner.CELL_PROJECTED, 6);
        MrpPlanner x = new MrpPlanner(2, 4);
        x.addComponent(0, 1, 5);
        x.setItem(1, 1, 1, 40);
        x.setDemand(0, 2, 10);
        x.setDemand(1, 2, 33);
        x.setDemand(1, 3, 100);
        x.setReceipt(1, 2, 4);
        x.plan();
        // 33 + 5 * 10 in all, 79 after the receipt, 80 in lots; the 100 of period 3, less 1, take 120.
        long[] want = {33, 4, 83, 79, 80, 120, 1};
        for (int field = 0; field < 7; field++) {
            check.due("getCell(1, 2, " + field + ")", x.getCell(1, 2, field), want[field]);
        }
    }

    private static void countKinds(Check check) {
        check.due("COUNT_ITEMS", MrpPlanner.COUNT_ITEMS, 0);
        check.due("COUNT_PERIODS", MrpPlanner.COUNT_PERIODS, 1);
        check.due("COUNT_EDGES", MrpPlanner.COUNT_EDGES, 2);
        check.due("COUNT_CURRENT", MrpPlanner.COUNT_CURRENT, 3);
        MrpPlanner x = State.BUSY.make();
        long[] want = {4, 6, 3, 1};
        for (int what = 0; what < 4; what++) {
            check.due("getCount(" + what + ")", x.getCount(what), want[what]);
        }
    }
}

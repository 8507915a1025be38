import java.util.Map;

public final class Promise09StepTest {
    private static final int STOCK = MrpPlanner.ITEM_STOCK;
    private static final int CURRENT = MrpPlanner.COUNT_CURRENT;
    private static final int STEP_NO_PLAN = MrpPlanner.STEP_NO_PLAN;
    private static final int STEP_DONE = MrpPlanner.STEP_DONE;

    public static void main(String[] args) {
        Section section = new Section("Promise 9: step");
        section.test("Executes one period.",
            Promise09StepTest::onePeriod);
        section.test("Answers STEP_NO_PLAN if there is no plan.",
            Promise09StepTest::withoutAPlan);
        section.test("Answers STEP_DONE if CURRENT == P.",
            Promise09StepTest::atTheEnd);
        section.test("In both cases nothing changes.",
            Promise09StepTest::nothingChanges);
        section.test("Otherwise, with t = CURRENT, for every item i:",
            Promise09StepTest::everyItem);
        section.test("STOCK of i = STOCK of i + S[t] + PLANNED[t] - D[t]"
                + " - the sum, over every edge (p, i, u), of u * RELEASE of p in t.",
            Promise09StepTest::stock);
        section.test("Then CURRENT becomes t + 1.",
            Promise09StepTest::currentGrows);
        section.test("The call answers the number of items (among all N) whose STOCK is now below 0, a value in 0..N.",
            Promise09StepTest::countsTheItemsBelowZero);
        section.test("The plan values and item data are unchanged.",
            Promise09StepTest::planAndDataStay);
        section.test("While a plan is kept and no call to scrap has answered true since the plan() that made it,"
                + " every step() since then has answered 0, or STEP_DONE if CURRENT was already P.",
            Promise09StepTest::undisturbedAnswers);
        section.test("STOCK of each item equals its on-hand when CURRENT is 0,"
                + " and equals PROJECTED[CURRENT-1] of that item when CURRENT is 1..P.",
            Promise09StepTest::undisturbedStock);
        section.end();
    }

    private static void onePeriod(Check check) {
        MrpPlanner x = new MrpPlanner(1, 4);
        x.setReceipt(0, 0, 1);
        x.setReceipt(0, 1, 20);
        x.setReceipt(0, 3, 300);
        x.plan();
        long[] stock = {1, 21, 21, 321};
        for (int t = 0; t < 4; t++) {
            x.step();
            check.due("STOCK after period " + t, x.getItem(0, STOCK), stock[t]);
        }
    }

    private static void withoutAPlan(Check check) {
        for (State state : State.values()) {
            if (!state.hasPlan()) {
                check.due(state + ": step()", state.make().step(), STEP_NO_PLAN);
            }
        }
        MrpPlanner x = State.DONE.make();
        x.setDemand(0, 0, 1);
        check.due("step() after an edit at the end", x.step(), STEP_NO_PLAN);
        x.plan();
        check.due("step() of the next plan", x.step(), 0);
        check.due("refused edit", x.setDemand(0, 0, -1), false);
        check.due("step() after a refused edit", x.step(), 0);
    }

    private static void atTheEnd(Check check) {
        for (int periods = 4; periods <= 16; periods++) {
            MrpPlanner x = new MrpPlanner(2, periods);
            x.plan();
            for (int t = 0; t < periods; t++) {
                check.due("step() " + t + " of " + periods, x.step(), 0);
            }
            check.due("CURRENT", x.getCount(CURRENT), periods);
            for (int k = 0; k < 3; k++) {
                check.due("step() beyond " + periods, x.step(), STEP_DONE);
            }
        }
        // A new plan begins anew; items below 0 do not change the answer at the end.
        MrpPlanner x = State.DONE.make();
        x.scrap(0, 100000);
        check.due("step() at the end", x.step(), STEP_DONE);
        x.plan();
        check.due("step() of a new plan", x.step(), 0);
    }

    private static void nothingChanges(Check check) {
        for (State state : new State[] {State.FRESH, State.EDITED, State.TOO_LARGE, State.DONE}) {
            Refusals r = new Refusals(check, state);
            for (int k = 0; k < 20; k++) {
                r.due("step()", r.x.step(), state == State.DONE ? STEP_DONE : STEP_NO_PLAN);
            }
            r.end();
        }
    }

    private static void everyItem(Check check) {
        MrpPlanner x = new MrpPlanner(16, 5);
        for (int i = 0; i < 16; i++) {
            x.setOnHand(i, 10 * i);
            for (int t = 0; t < 5; t++) {
                x.setReceipt(i, t, 100 * i + t + 1);
            }
        }
        x.plan();
        for (int t = 0; t < 5; t++) {
            x.step();
            for (int i = 0; i < 16; i++) {
                long want = 10 * i + (t + 1) * 100 * i + (t + 1) * (t + 2) / 2;
                check.due("STOCK of " + i + " after period " + t, x.getItem(i, STOCK), want);
            }
        }
    }

    private static void stock(Check check) {
        MrpPlanner x = new MrpPlanner(3, 4);
        x.addComponent(0, 1, 3);
        x.addComponent(2, 1, 2);
        x.setItem(0, 1, MrpPlanner.LOT_FOR_LOT, 0);
        x.setItem(1, 0, MrpPlanner.FIXED_QTY, 40);
        x.setOnHand(1, 100);
        x.setDemand(0, 2, 10);
        x.setDemand(2, 1, 4);
        x.setDemand(1, 1, 5);
        x.setDemand(1, 3, 60);
        x.setReceipt(1, 2, 20);
        x.plan();
        x.scrap(1, 80);
        dueStep(check, x, 0, 0, 20, 0);
        // Three for each of the ten of 0, which are released now, two for each of 4, and 5.
        dueStep(check, x, 1, 0, -23, 0);
        dueStep(check, x, 1, 0, -3, 0);
        // A stock of 77 was projected, so nothing is planned against the loss.
        dueStep(check, x, 1, 0, -63, 0);
        check.due("PLANNED of 1 in 3", x.getCell(1, 3, MrpPlanner.CELL_PLANNED), 0);

        // With a lot, all of it comes in: 43 lack and 80 come.
        x.setOnHand(1, 60);
        x.plan();
        x.scrap(1, 1);
        dueStep(check, x, 0, 0, 59, 0);
        dueStep(check, x, 0, 0, 16, 0);
        dueStep(check, x, 0, 0, 36, 0);
        dueStep(check, x, 0, 0, 16, 0);
        check.due("PLANNED of 1 in 3", x.getCell(1, 3, MrpPlanner.CELL_PLANNED), 40);
        byTheFormula(check);
    }

    private static void byTheFormula(Check check) {
        for (State state : State.values()) {
            MrpPlanner x = state.make();
            boolean isPlanned = x.plan() == MrpPlanner.OK;
            for (int t = 0; t < x.getCount(MrpPlanner.COUNT_PERIODS) && isPlanned; t++) {
                x.scrap(t % x.getCount(MrpPlanner.COUNT_ITEMS), 1000);
                Map<String, Long> before = Check.answers(x);
                x.step();
                for (int i = 0; i < x.getCount(MrpPlanner.COUNT_ITEMS); i++) {
                    long want = before.get("STOCK " + i) + change(x, i, t);
                    check.due(state + ": STOCK of " + i + " after period " + t, x.getItem(i, STOCK), want);
                }
            }
        }
    }

    private static long change(MrpPlanner x, int item, int period) {
        long sum = x.getCell(item, period, MrpPlanner.CELL_RECEIPT)
            + x.getCell(item, period, MrpPlanner.CELL_PLANNED)
            - x.getCell(item, period, MrpPlanner.CELL_DEMAND);
        for (int p = 0; p < x.getCount(MrpPlanner.COUNT_ITEMS); p++) {
            sum -= x.getUsage(p, item) * x.getCell(p, period, MrpPlanner.CELL_RELEASE);
        }
        return sum;
    }

    private static void dueStep(Check check, MrpPlanner x, int below, long... stocks) {
        String at = "period " + x.getCount(CURRENT) + ": ";
        check.due(at + "step()", x.step(), below);
        for (int i = 0; i < stocks.length; i++) {
            check.due(at + "STOCK of " + i, x.getItem(i, STOCK), stocks[i]);
        }
    }

    private static void currentGrows(Check check) {
        for (State state : State.values()) {
            MrpPlanner x = state.make();
            x.plan();
            for (int t = 0; t < x.getCount(MrpPlanner.COUNT_PERIODS) && state != State.TOO_LARGE; t++) {
                check.due(state + ": CURRENT before", x.getCount(CURRENT), t);
                x.scrap(0, 100000);
                x.step();
                check.due(state + ": CURRENT after", x.getCount(CURRENT), t + 1);
            }
        }
    }

    private static void countsTheItemsBelowZero(Check check) {
        for (int items : new int[] {1, 2, 7, 16}) {
            MrpPlanner x = new MrpPlanner(items, 4);
            for (int below = 0; below <= items; below++) {
                x.plan();
                for (int k = 0; k < below; k++) {
                    x.scrap(items - 1 - k, 1);
                }
                check.due(below + " of " + items + " below 0", x.step(), below);
                check.due(below + " of " + items + " still below 0", x.step(), below);
            }
        }
        // 0 is not below 0, and what counts is the stock after the period.
        MrpPlanner x = new MrpPlanner(1, 4);
        x.setOnHand(0, 10);
        x.setReceipt(0, 2, 1);
        x.setReceipt(0, 3, 4);
        x.plan();
        x.scrap(0, 10);
        check.due("step() with STOCK 0", x.step(), 0);
        x.scrap(0, 1);
        check.due("step() with STOCK -1", x.step(), 1);
        check.due("step() back to STOCK 0", x.step(), 0);
        x.scrap(0, 100000);
        check.due("step() with STOCK -99996", x.step(), 1);
    }

    private static void planAndDataStay(Check check) {
        for (State state : State.values()) {
            MrpPlanner x = state.make();
            x.plan();
            for (int t = 0; t < x.getCount(MrpPlanner.COUNT_PERIODS) && state != State.TOO_LARGE; t++) {
                x.scrap(0, 7);
                Map<String, Long> before = Check.answers(x);
                x.step();
                before.put("CURRENT", t + 1L);
                for (int i = 0; i < x.getCount(MrpPlanner.COUNT_ITEMS); i++) {
                    before.put("STOCK " + i, x.getItem(i, STOCK));
                }
                check.dueChanged(state + ": step() " + t, before, x);
            }
        }
    }

    private static void undisturbedAnswers(Check check) {
        for (State state : State.values()) {
            if (state != State.TOO_LARGE) {
                MrpPlanner x = state.make();
                x.plan();
                // A refused scrap disturbs nothing, and a scrap before the plan() neither.
                check.due(state + ": scrap(0, 0)", x.scrap(0, 0), false);
                check.due(state + ": scrap(-1, 1)", x.scrap(-1, 1), false);
                for (int t = 0; t < x.getCount(MrpPlanner.COUNT_PERIODS); t++) {
                    check.due(state + ": step() " + t, x.step(), 0);
                }
                check.due(state + ": step() at the end", x.step(), STEP_DONE);
                check.due(state + ": step() at the end again", x.step(), STEP_DONE);
            }
        }
    }

    private static void undisturbedStock(Check check) {
        for (State state : State.values()) {
            if (state != State.TOO_LARGE) {
                MrpPlanner x = state.make();
                x.plan();
                dueStock(check, state, x, 0);
                int periods = x.getCount(MrpPlanner.COUNT_PERIODS);
                for (int t = 0; t < periods; t++) {
                    x.step();
                    dueStock(check, state, x, t + 1);
                }
                x.step();
                dueStock(check, state, x, periods);
            }
        }
    }

    private static void dueStock(Check check, State state, MrpPlanner x, int current) {
        check.due(state + ": CURRENT", x.getCount(CURRENT), current);
        for (int i = 0; i < x.getCount(MrpPlanner.COUNT_ITEMS); i++) {
            long want = current == 0
                ? x.getItem(i, MrpPlanner.ITEM_ONHAND)
                : x.getCell(i, current - 1, MrpPlanner.CELL_PROJECTED);
            check.due(state + ": STOCK of " + i + " at " + current, x.getItem(i, STOCK), want);
        }
    }
}

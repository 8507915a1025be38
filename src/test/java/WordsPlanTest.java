public final class WordsPlanTest {
    private static final int GROSS = MrpPlanner.CELL_GROSS;
    private static final int NET = MrpPlanner.CELL_NET;
    private static final int PLANNED = MrpPlanner.CELL_PLANNED;
    private static final int RELEASE = MrpPlanner.CELL_RELEASE;
    private static final int PROJECTED = MrpPlanner.CELL_PROJECTED;
    private static final int PASTDUE = MrpPlanner.ITEM_PASTDUE;
    private static final int LOT_FOR_LOT = MrpPlanner.LOT_FOR_LOT;
    private static final int FIXED_QTY = MrpPlanner.FIXED_QTY;
    private static final int PERIOD_ORDER = MrpPlanner.PERIOD_ORDER;

    public static void main(String[] args) {
        Section section = new Section("Words used below: The plan");
        section.test("All plan quantities are longs.",
            WordsPlanTest::longs);
        section.test("The items are planned one at a time, in order of increasing LEVEL, ties by lower item number,"
                + " so every parent is planned before its children.",
            WordsPlanTest::parentsBeforeChildren);
        section.test("For item i, let prev(0) = H and prev(t) = PROJECTED[t-1] for t >= 1.",
            WordsPlanTest::stockBefore);
        section.test("GROSS[t] = D[t] + the sum, over every edge (p, i, u), of u * RELEASE of p in t, for every t.",
            WordsPlanTest::gross);
        section.test("If some GROSS[t] of i is greater than LIMIT, the plan fails.",
            WordsPlanTest::grossAboveTheLimit);
        section.test("Then for t = 0, 1, .., P-1 in this order:",
            WordsPlanTest::inTheOrderOfThePeriods);
        section.test("NET[t] = GROSS[t] - S[t] - prev(t) if that is > 0, else 0.",
            WordsPlanTest::net);
        section.test("PLANNED[t] = 0 if NET[t] = 0.",
            WordsPlanTest::nothingPlannedWithoutNet);
        section.test("Otherwise, by the rule of i:",
            WordsPlanTest::byTheRuleOfTheItem);
        section.test("LOT_FOR_LOT: NET[t].",
            WordsPlanTest::lotForLot);
        section.test("FIXED_QTY with parameter q: the least k*q with k >= 1 that is >= NET[t].",
            WordsPlanTest::fixedQty);
        section.test("PERIOD_ORDER with parameter n: let e = min(t+n-1, P-1); PLANNED[t] is the greatest value,"
                + " over s = t..e, of (GROSS[t]+..+GROSS[s]) - (S[t]+..+S[s]) - prev(t).",
            WordsPlanTest::periodOrder);
        section.test("PROJECTED[t] = prev(t) + S[t] + PLANNED[t] - GROSS[t].",
            WordsPlanTest::projected);
        section.test("Each PLANNED[t] > 0 is released in period r = t - L.",
            WordsPlanTest::releasedALeadTimeBefore);
        section.test("If r < 0, it is released in period 0 instead, and its quantity is also added to PASTDUE of i.",
            WordsPlanTest::movedToPeriodZero);
        section.test("RELEASE[r] is the sum of the quantities released in period r (0 if none).",
            WordsPlanTest::releaseIsASum);
        section.test("PASTDUE is the sum of the quantities moved to period 0 (0 if none).",
            WordsPlanTest::pastDueIsASum);
        section.end();
    }

    private static MrpPlanner oneItem(int lead, int rule, int param, int... demands) {
        MrpPlanner x = new MrpPlanner(1, demands.length);
        x.setItem(0, lead, rule, param);
        for (int t = 0; t < demands.length; t++) {
            x.setDemand(0, t, demands[t]);
        }
        return x;
    }

    private static void planned(Check check, MrpPlanner x) {
        check.due("plan()", x.plan(), MrpPlanner.OK);
    }

    private static void longs(Check check) {
        MrpPlanner x = Samples.tenMillionfold();
        x.setItem(10, 8, PERIOD_ORDER, 8);
        for (int t = 0; t < 16; t++) {
            x.setDemand(0, t, 100000);
        }
        planned(check, x);
        check.due("GROSS in 15", x.getCell(10, 15, GROSS), 1000000000000L);
        check.due("NET in 8", x.getCell(10, 8, NET), 1000000000000L);
        check.due("PLANNED in 0", x.getCell(10, 0, PLANNED), 8000000000000L);
        check.due("PLANNED in 8", x.getCell(10, 8, PLANNED), 8000000000000L);
        check.due("RELEASE in 0", x.getCell(10, 0, RELEASE), 16000000000000L);
        check.due("PASTDUE", x.getItem(10, PASTDUE), 8000000000000L);
        check.due("PROJECTED in 0", x.getCell(10, 0, PROJECTED), 7000000000000L);
        x.step();
        check.due("STOCK", x.getItem(10, MrpPlanner.ITEM_STOCK), 7000000000000L);
    }

    /** A chain through four items in each of their orders; the order of ties shows in no answer. */
    private static void parentsBeforeChildren(Check check) {
        for (int code = 0; code < 256; code++) {
            int[] chain = {code & 3, code >> 2 & 3, code >> 4 & 3, code >> 6 & 3};
            if (allDiffer(chain)) {
                MrpPlanner x = new MrpPlanner(4, 4);
                x.addComponent(chain[2], chain[3], 5);
                x.addComponent(chain[0], chain[1], 2);
                x.addComponent(chain[1], chain[2], 3);
                x.addComponent(chain[0], chain[3], 7);
                x.setDemand(chain[0], 2, 10);
                x.setOnHand(chain[1], 1);
                planned(check, x);
                check.dueRow(x, chain[1], GROSS, 0, 0, 20, 0);
                check.dueRow(x, chain[2], GROSS, 0, 0, 57, 0);
                check.dueRow(x, chain[3], GROSS, 0, 0, 355, 0);
            }
        }
    }

    private static boolean allDiffer(int[] four) {
        int seen = 0;
        for (int one : four) {
            seen |= 1 << one;
        }
        return seen == 15;
    }

    private static void stockBefore(Check check) {
        MrpPlanner x = oneItem(0, LOT_FOR_LOT, 0, 3, 3, 3, 3);
        x.setOnHand(0, 7);
        planned(check, x);
        check.dueRow(x, 0, NET, 0, 0, 2, 3);
        check.dueRow(x, 0, PROJECTED, 4, 1, 0, 0);

        // What a lot leaves over counts before the next period, and so does the greatest on-hand.
        x = oneItem(0, FIXED_QTY, 10, 3, 3, 3, 3);
        planned(check, x);
        check.dueRow(x, 0, NET, 3, 0, 0, 2);
        check.dueRow(x, 0, PROJECTED, 7, 4, 1, 8);
        x = oneItem(0, LOT_FOR_LOT, 0, 0, 99999, 2, 0);
        x.setOnHand(0, 100000);
        planned(check, x);
        check.dueRow(x, 0, NET, 0, 0, 1, 0);
        check.dueRow(x, 0, PROJECTED, 100000, 1, 0, 0);
    }

    private static void gross(Check check) {
        // 3 is used by 0, 1 and 2 and is asked for from outside too.
        MrpPlanner x = new MrpPlanner(5, 4);
        x.addComponent(0, 1, 2);
        x.addComponent(0, 2, 3);
        x.addComponent(1, 3, 5);
        x.addComponent(2, 3, 7);
        x.addComponent(0, 3, 9);
        x.setItem(0, 1, LOT_FOR_LOT, 0);
        x.setItem(1, 1, FIXED_QTY, 25);
        x.setDemand(0, 3, 10);
        x.setDemand(2, 3, 1);
        x.setDemand(3, 0, 8);
        x.setDemand(3, 2, 6);
        x.setDemand(4, 0, 1);
        x.setDemand(4, 3, 2);
        planned(check, x);
        check.dueRow(x, 0, GROSS, 0, 0, 0, 10);
        check.dueRow(x, 1, GROSS, 0, 0, 20, 0);
        check.dueRow(x, 2, GROSS, 0, 0, 30, 1);
        check.dueRow(x, 3, GROSS, 8, 5 * 25, 6 + 7 * 30 + 9 * 10, 7);
        check.dueRow(x, 4, GROSS, 1, 0, 0, 2);

        // RELEASE of the parent counts, not its own GROSS.
        x.setOnHand(0, 10);
        planned(check, x);
        check.dueRow(x, 1, GROSS, 0, 0, 0, 0);
        check.dueRow(x, 3, GROSS, 8, 0, 6, 7);
    }

    private static void grossAboveTheLimit(Check check) {
        for (int period = 0; period < 16; period++) {
            MrpPlanner x = Samples.tenMillionfold();
            x.setDemand(0, period, 100000);
            x.setDemand(10, period, 1);
            check.due("LIMIT + 1 in " + period, x.plan(), MrpPlanner.PLAN_TOO_LARGE);
        }
        // Stock and receipts come after GROSS, so they do not help.
        MrpPlanner x = Samples.tenMillionfold();
        x.setDemand(0, 15, 100000);
        x.setDemand(10, 15, 1);
        x.setOnHand(10, 100000);
        x.setReceipt(10, 15, 100000);
        check.due("LIMIT + 1 and much in stock", x.plan(), MrpPlanner.PLAN_TOO_LARGE);
        x.setOnHand(9, 1);
        check.due("LIMIT + 1 - 2", x.plan(), MrpPlanner.OK);

        // Two lots within LIMIT are above it when both are moved to period 0.
        MrpPlanner moved = Samples.tenMillionfold();
        moved.setDemand(0, 6, 100000);
        moved.setDemand(0, 7, 1);
        check.due("apart", moved.plan(), MrpPlanner.OK);
        moved.setItem(4, 8, LOT_FOR_LOT, 0);
        check.due("together", moved.plan(), MrpPlanner.PLAN_TOO_LARGE);

        // Above LIMIT by far in the middle of the chain: 9^15 * 100000 does not fit a long.
        for (int way = -1; way <= 1; way += 2) {
            MrpPlanner steep = Samples.chain(16, 4, way, 9);
            steep.setDemand(way > 0 ? 0 : 15, 3, 100000);
            check.due("far above", steep.plan(), MrpPlanner.PLAN_TOO_LARGE);
        }
    }

    private static void inTheOrderOfThePeriods(Check check) {
        // A receipt or a lot helps the periods after it and none before it.
        MrpPlanner x = oneItem(0, LOT_FOR_LOT, 0, 5, 0, 8, 9);
        x.setReceipt(0, 1, 10);
        planned(check, x);
        check.dueRow(x, 0, PLANNED, 5, 0, 0, 7);
        check.dueRow(x, 0, PROJECTED, 0, 10, 2, 0);
        x.setReceipt(0, 1, 0);
        x.setReceipt(0, 3, 10);
        planned(check, x);
        check.dueRow(x, 0, PLANNED, 5, 0, 8, 0);
        check.dueRow(x, 0, PROJECTED, 0, 0, 0, 1);
    }

    private static void net(Check check) {
        // GROSS - S - prev of 1, 0 and -1, once by the stock and once by the receipt.
        for (int spare = -1; spare <= 1; spare++) {
            MrpPlanner x = oneItem(0, LOT_FOR_LOT, 0, 20, 0, 0, 0);
            x.setOnHand(0, 20 + spare);
            planned(check, x);
            check.dueRow(x, 0, NET, spare < 0 ? 1 : 0, 0, 0, 0);

            x = oneItem(0, LOT_FOR_LOT, 0, 0, 0, 0, 20);
            x.setReceipt(0, 3, 20 + spare);
            planned(check, x);
            check.dueRow(x, 0, NET, 0, 0, 0, spare < 0 ? 1 : 0);

            x = oneItem(0, LOT_FOR_LOT, 0, 0, 20, 0, 0);
            x.setOnHand(0, 12 + spare);
            x.setReceipt(0, 1, 8);
            planned(check, x);
            check.dueRow(x, 0, NET, 0, spare < 0 ? 1 : 0, 0, 0);
        }
        MrpPlanner x = oneItem(0, LOT_FOR_LOT, 0, 100000, 0, 0, 0);
        planned(check, x);
        check.dueRow(x, 0, NET, 100000, 0, 0, 0);
        x = oneItem(0, LOT_FOR_LOT, 0, 0, 0, 0, 0);
        x.setReceipt(0, 0, 100000);
        planned(check, x);
        check.dueRow(x, 0, NET, 0, 0, 0, 0);
    }

    private static void nothingPlannedWithoutNet(Check check) {
        int[][] rules = {{LOT_FOR_LOT, 0}, {FIXED_QTY, 1}, {FIXED_QTY, 10000}, {PERIOD_ORDER, 1}, {PERIOD_ORDER, 8}};
        for (int[] rule : rules) {
            // The lack in period 3 is not planned for as long as NET is 0.
            MrpPlanner x = oneItem(0, rule[0], rule[1], 6, 0, 4, 1);
            x.setOnHand(0, 10);
            planned(check, x);
            check.due("rule " + rule[0] + ": PLANNED in 0", x.getCell(0, 0, PLANNED), 0);
            check.due("rule " + rule[0] + ": PLANNED in 1", x.getCell(0, 1, PLANNED), 0);
            check.due("rule " + rule[0] + ": PLANNED in 2", x.getCell(0, 2, PLANNED), 0);
            check.due("rule " + rule[0] + ": PLANNED in 3", x.getCell(0, 3, PLANNED), rule[1] == 10000 ? 10000 : 1);
        }
    }

    private static void byTheRuleOfTheItem(Check check) {
        MrpPlanner x = new MrpPlanner(3, 4);
        x.setItem(0, 0, LOT_FOR_LOT, 3);
        x.setItem(1, 0, FIXED_QTY, 3);
        x.setItem(2, 0, PERIOD_ORDER, 3);
        for (int i = 0; i < 3; i++) {
            x.setDemand(i, 0, 4);
            x.setDemand(i, 2, 5);
            x.setDemand(i, 3, 8);
        }
        planned(check, x);
        check.dueRow(x, 0, PLANNED, 4, 0, 5, 8);
        check.dueRow(x, 1, PLANNED, 6, 0, 3, 9);
        check.dueRow(x, 2, PLANNED, 9, 0, 0, 8);

        // Another rule holds from the next plan on.
        x.setItem(0, 0, PERIOD_ORDER, 4);
        x.setItem(1, 0, LOT_FOR_LOT, 0);
        x.setItem(2, 0, FIXED_QTY, 8);
        planned(check, x);
        check.dueRow(x, 0, PLANNED, 17, 0, 0, 0);
        check.dueRow(x, 1, PLANNED, 4, 0, 5, 8);
        check.dueRow(x, 2, PLANNED, 8, 0, 8, 8);
    }

    private static void lotForLot(Check check) {
        for (int param : new int[] {0, 7, -1, Integer.MAX_VALUE}) {
            MrpPlanner x = oneItem(0, LOT_FOR_LOT, param, 10, 0, 30, 100000);
            x.setOnHand(0, 4);
            x.setReceipt(0, 1, 29);
            planned(check, x);
            check.dueRow(x, 0, NET, 6, 0, 1, 100000);
            check.dueRow(x, 0, PLANNED, 6, 0, 1, 100000);
        }
    }

    private static void fixedQty(Check check) {
        // A NET of just k lots, of one less and of one more.
        MrpPlanner x = oneItem(0, FIXED_QTY, 10, 30, 29, 22, 10);
        planned(check, x);
        check.dueRow(x, 0, NET, 30, 29, 21, 1);
        check.dueRow(x, 0, PLANNED, 30, 30, 30, 10);
        check.dueRow(x, 0, PROJECTED, 0, 1, 9, 9);

        // The least lot and the greatest one.
        x = oneItem(0, FIXED_QTY, 1, 3, 0, 100000, 1);
        planned(check, x);
        check.dueRow(x, 0, PLANNED, 3, 0, 100000, 1);
        x = oneItem(0, FIXED_QTY, 10000, 1, 9999, 1, 100000);
        planned(check, x);
        check.dueRow(x, 0, PLANNED, 10000, 0, 10000, 100000);
        check.dueRow(x, 0, PROJECTED, 9999, 0, 9999, 9999);
        x = oneItem(0, FIXED_QTY, 10000, 10000, 10001, 0, 0);
        planned(check, x);
        check.dueRow(x, 0, PLANNED, 10000, 20000, 0, 0);

        // A NET as large as it can be.
        x = Samples.tenMillionfold();
        x.setItem(10, 0, FIXED_QTY, 9999);
        x.setDemand(0, 15, 100000);
        planned(check, x);
        check.due("PLANNED for a NET of LIMIT", x.getCell(10, 15, PLANNED), 1000000009998L);
    }

    private static void periodOrder(Check check) {
        MrpPlanner x = oneItem(0, PERIOD_ORDER, 3, 0, 10, 20, 30, 40, 50, 60, 70);
        x.setOnHand(0, 4);
        x.setReceipt(0, 3, 5);
        planned(check, x);
        check.dueRow(x, 0, NET, 0, 6, 0, 0, 40, 0, 0, 70);
        check.dueRow(x, 0, PLANNED, 0, 51, 0, 0, 150, 0, 0, 70);
        check.dueRow(x, 0, PROJECTED, 4, 45, 25, 0, 110, 60, 0, 0);
        theLeastAndTheGreatestSpan(check);
        theWorstPoint(check);
        theHorizon(check);
    }

    private static void theLeastAndTheGreatestSpan(Check check) {
        MrpPlanner x = oneItem(0, PERIOD_ORDER, 1, 3, 0, 8, 2);
        planned(check, x);
        check.dueRow(x, 0, PLANNED, 3, 0, 8, 2);
        x = oneItem(0, PERIOD_ORDER, 8, 0, 1, 2, 4, 8, 16, 32, 64, 128, 256, 512);
        planned(check, x);
        check.dueRow(x, 0, PLANNED, 0, 255, 0, 0, 0, 0, 0, 0, 0, 768, 0);
    }

    private static void theWorstPoint(Check check) {
        // The receipt in period 2 makes the whole sum smaller than the sum up to period 1.
        MrpPlanner x = oneItem(0, PERIOD_ORDER, 4, 10, 25, 5, 40);
        x.setReceipt(0, 2, 100);
        planned(check, x);
        check.dueRow(x, 0, PLANNED, 35, 0, 0, 0);
        check.dueRow(x, 0, PROJECTED, 25, 0, 95, 55);

        // Here the receipt in period 1 leaves period 0 itself as the worst point.
        x = oneItem(0, PERIOD_ORDER, 2, 10, 5, 0, 0);
        x.setReceipt(0, 1, 50);
        planned(check, x);
        check.dueRow(x, 0, PLANNED, 10, 0, 0, 0);
        check.dueRow(x, 0, PROJECTED, 0, 45, 45, 45);

        // Here the last period is it, after a better one between.
        x = oneItem(0, PERIOD_ORDER, 3, 10, 0, 90, 0);
        x.setReceipt(0, 1, 50);
        x.setOnHand(0, 3);
        planned(check, x);
        check.dueRow(x, 0, PLANNED, 47, 0, 0, 0);
        check.dueRow(x, 0, PROJECTED, 40, 90, 0, 0);
    }

    private static void theHorizon(Check check) {
        // t+n-1 of one less than P-1, of P-1 and of one more.
        for (int span = 2; span <= 4; span++) {
            MrpPlanner x = oneItem(0, PERIOD_ORDER, span, 0, 5, 7, 9);
            planned(check, x);
            check.dueRow(x, 0, PLANNED, 0, span == 2 ? 12 : 21, 0, span == 2 ? 9 : 0);
        }
        MrpPlanner x = oneItem(0, PERIOD_ORDER, 8, 0, 0, 0, 9);
        planned(check, x);
        check.dueRow(x, 0, PLANNED, 0, 0, 0, 9);

        // The numbers of the next item, planned before, must not leak in behind the last period.
        MrpPlanner two = new MrpPlanner(2, 16);
        two.addComponent(1, 0, 1);
        two.setItem(0, 0, PERIOD_ORDER, 8);
        two.setDemand(0, 15, 3);
        two.setDemand(1, 0, 1000);
        planned(check, two);
        check.due("PLANNED in the last period", two.getCell(0, 15, PLANNED), 3);

        // A demand behind the horizon is refused, so no lot covers it.
        MrpPlanner five = oneItem(0, PERIOD_ORDER, 3, 0, 0, 0, 2, 6);
        five.setDemand(0, 5, 100);
        planned(check, five);
        check.dueRow(five, 0, PLANNED, 0, 0, 0, 8, 0);
    }

    private static void projected(Check check) {
        MrpPlanner x = oneItem(0, FIXED_QTY, 40, 50, 20, 90, 0);
        x.setOnHand(0, 8);
        x.setReceipt(0, 1, 3);
        x.setReceipt(0, 3, 100000);
        planned(check, x);
        check.dueRow(x, 0, PLANNED, 80, 0, 80, 0);
        check.dueRow(x, 0, PROJECTED, 38, 21, 11, 100011);

        // All is used up: 0, and never less.
        x = oneItem(0, LOT_FOR_LOT, 0, 8, 9, 0, 100000);
        x.setOnHand(0, 8);
        planned(check, x);
        check.dueRow(x, 0, PROJECTED, 0, 0, 0, 0);
    }

    private static void releasedALeadTimeBefore(Check check) {
        for (int lead = 0; lead <= 8; lead++) {
            // In the last period, and in the one whose r is just 0.
            MrpPlanner x = new MrpPlanner(1, 16);
            x.setItem(0, lead, LOT_FOR_LOT, 0);
            x.setDemand(0, 15, 7);
            x.setDemand(0, lead, 5);
            planned(check, x);
            for (int t = 0; t < 16; t++) {
                long want = t == 0 ? 5 : t == 15 - lead ? 7 : 0;
                check.due("lead " + lead + ": RELEASE in " + t, x.getCell(0, t, RELEASE), want);
            }
            check.due("lead " + lead + ": PASTDUE", x.getItem(0, PASTDUE), 0);
        }
    }

    private static void movedToPeriodZero(Check check) {
        for (int lead = 1; lead <= 8; lead++) {
            for (int period = 0; period < 9; period++) {
                MrpPlanner x = new MrpPlanner(2, 9);
                x.setItem(1, lead, LOT_FOR_LOT, 0);
                x.setDemand(1, period, 5);
                planned(check, x);
                String at = "lead " + lead + ", period " + period + ": ";
                boolean isMoved = period < lead;
                int due = isMoved ? 0 : period - lead;
                check.due(at + "RELEASE in " + due, x.getCell(1, due, RELEASE), 5);
                check.due(at + "PASTDUE", x.getItem(1, PASTDUE), isMoved ? 5 : 0);
                check.due(at + "PASTDUE of the other item", x.getItem(0, PASTDUE), 0);
            }
        }
    }

    private static void releaseIsASum(Check check) {
        MrpPlanner x = oneItem(2, LOT_FOR_LOT, 0, 1, 20, 300, 4000, 50000);
        planned(check, x);
        check.dueRow(x, 0, PLANNED, 1, 20, 300, 4000, 50000);
        check.dueRow(x, 0, RELEASE, 321, 4000, 50000, 0, 0);

        x = oneItem(8, LOT_FOR_LOT, 0, 100000, 100000, 100000, 100000);
        planned(check, x);
        check.dueRow(x, 0, RELEASE, 400000, 0, 0, 0);

        // None is left over from the plan before.
        x = oneItem(1, LOT_FOR_LOT, 0, 0, 0, 0, 9);
        planned(check, x);
        check.dueRow(x, 0, RELEASE, 0, 0, 9, 0);
        x.setDemand(0, 3, 0);
        planned(check, x);
        check.dueRow(x, 0, RELEASE, 0, 0, 0, 0);
    }

    private static void pastDueIsASum(Check check) {
        // The lot of period 2 is released in period 0 in time: it is not past due.
        MrpPlanner x = oneItem(2, LOT_FOR_LOT, 0, 1, 20, 300, 4000, 50000);
        planned(check, x);
        check.due("PASTDUE", x.getItem(0, PASTDUE), 21);
        planned(check, x);
        check.due("PASTDUE, planned again", x.getItem(0, PASTDUE), 21);

        // It counts whole lots, and only planned ones: no stock and no receipt.
        x = oneItem(3, FIXED_QTY, 50, 30, 0, 30, 0);
        x.setOnHand(0, 7);
        x.setReceipt(0, 2, 1);
        planned(check, x);
        check.due("PASTDUE of two lots", x.getItem(0, PASTDUE), 100);
        x.setOnHand(0, 60);
        planned(check, x);
        check.due("PASTDUE without a lot", x.getItem(0, PASTDUE), 0);
        x = oneItem(0, LOT_FOR_LOT, 0, 30, 30, 30, 30);
        planned(check, x);
        check.due("PASTDUE without a lead time", x.getItem(0, PASTDUE), 0);
    }
}

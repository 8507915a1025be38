import java.util.List;
import java.util.Map;

public final class Promise01ConstructionTest {
    public static void main(String[] args) {
        Section section = new Section("Promise 1: Construction and fresh state");
        section.test("`MrpPlanner(int items, int periods)`: items is clamped into 1..16 and gives N;"
                + " periods is clamped into 4..16 and gives P.",
            Promise01ConstructionTest::insideTheRanges);
        section.test("A value below the least becomes the least; a value above the greatest becomes the greatest.",
            Promise01ConstructionTest::outsideTheRanges);
        section.test("This holds for every int, including Integer.MIN_VALUE and Integer.MAX_VALUE.",
            Promise01ConstructionTest::everyInt);
        section.test("The object starts fresh: every item has lead 0, rule LOT_FOR_LOT, parameter 0, on-hand 0,"
                + " and all demands and scheduled receipts 0.",
            Promise01ConstructionTest::freshData);
        section.test("There are no edges, so every LEVEL is 0.",
            Promise01ConstructionTest::noEdges);
        section.test("There is no plan: CURRENT is -1 and every plan answer is 0.",
            Promise01ConstructionTest::noPlan);
        section.test("N and P never change afterwards.",
            Promise01ConstructionTest::sizesStay);
        section.end();
    }

    private static void dueSizes(Check check, int items, int periods, int wantItems, int wantPeriods) {
        String call = "new MrpPlanner(" + items + ", " + periods + "): ";
        MrpPlanner x = new MrpPlanner(items, periods);
        check.due(call + "N", x.getCount(MrpPlanner.COUNT_ITEMS), wantItems);
        check.due(call + "P", x.getCount(MrpPlanner.COUNT_PERIODS), wantPeriods);
        // The sizes bound the calls too, not only their own answers.
        check.due(call + "the last cell", x.setDemand(wantItems - 1, wantPeriods - 1, 1), true);
        check.due(call + "item N", x.setDemand(wantItems, 0, 1), false);
        check.due(call + "period P", x.setDemand(0, wantPeriods, 1), false);
    }

    private static void insideTheRanges(Check check) {
        for (int items = 1; items <= 16; items++) {
            for (int periods = 4; periods <= 16; periods++) {
                dueSizes(check, items, periods, items, periods);
            }
        }
    }

    private static void outsideTheRanges(Check check) {
        int[][] items = {{-1, 1}, {0, 1}, {17, 16}, {100, 16}};
        int[][] periods = {{-4, 4}, {0, 4}, {3, 4}, {17, 16}, {100, 16}};
        for (int[] n : items) {
            dueSizes(check, n[0], 9, n[1], 9);
            for (int[] p : periods) {
                dueSizes(check, 7, p[0], 7, p[1]);
                dueSizes(check, n[0], p[0], n[1], p[1]);
            }
        }
    }

    private static void everyInt(Check check) {
        for (int far : Values.outside(1, 16)) {
            int items = far < 1 ? 1 : 16;
            dueSizes(check, far, 5, items, 5);
            dueSizes(check, far, far, items, far < 4 ? 4 : 16);
        }
        for (int far : Values.outside(4, 16)) {
            dueSizes(check, 5, far, 5, far < 4 ? 4 : 16);
        }
        for (int shift = 5; shift < 32; shift++) {
            // From 1 << 5 on up to the sign bit.
            int power = 1 << shift;
            dueSizes(check, power, power, power < 0 ? 1 : 16, power < 0 ? 4 : 16);
            dueSizes(check, -power, -power, 1, 4);
            dueSizes(check, power + 5, power + 5, power < 0 ? 1 : 16, power < 0 ? 4 : 16);
        }
    }

    private static void freshData(Check check) {
        dueFresh(check, "LEAD", "RULE", "PARAM", "ONHAND", "DEMAND", "RECEIPT");
        check.due("LOT_FOR_LOT", MrpPlanner.LOT_FOR_LOT, 0);
        // What was done to another object before and after does not show.
        MrpPlanner first = Samples.busy();
        Map<String, Long> before = Check.answers(first);
        MrpPlanner second = new MrpPlanner(4, 6);
        check.dueChanged("a second object", Check.answers(new MrpPlanner(4, 6)), second);
        second.setOnHand(0, 99);
        second.plan();
        check.dueChanged("an edit of the second object", before, first);
    }

    private static void noEdges(Check check) {
        dueFresh(check, "EDGES", "USAGE", "LEVEL");
    }

    private static void noPlan(Check check) {
        dueFresh(check, "GROSS", "NET", "PLANNED", "RELEASE", "PROJECTED", "PASTDUE", "STOCK");
        for (int[] size : new int[][] {{1, 4}, {4, 6}, {16, 16}, {0, 0}, {99, 99}}) {
            MrpPlanner x = new MrpPlanner(size[0], size[1]);
            check.due("CURRENT", x.getCount(MrpPlanner.COUNT_CURRENT), -1);
            check.due("step()", x.step(), MrpPlanner.STEP_NO_PLAN);
            check.due("scrap(0, 1)", x.scrap(0, 1), false);
        }
    }

    /** Every answer of these fields is 0 on new objects of all sizes. */
    private static void dueFresh(Check check, String... fields) {
        for (int items = 0; items <= 17; items++) {
            for (int periods = 3; periods <= 17; periods++) {
                String call = "new MrpPlanner(" + items + ", " + periods + "): ";
                Map<String, Long> answers = Check.answers(new MrpPlanner(items, periods));
                answers.forEach((name, value) -> {
                    if (List.of(fields).contains(name.split(" ")[0])) {
                        check.due(call + name, value, 0);
                    }
                });
            }
        }
    }

    private static void sizesStay(Check check) {
        for (State state : State.values()) {
            MrpPlanner x = state.make();
            int items = switch (state) {
                case TOO_LARGE -> 11;
                case FULL, GREATEST -> 16;
                case SMALLEST -> 1;
                default -> 4;
            };
            int periods = switch (state) {
                case TOO_LARGE, GREATEST -> 16;
                case FULL, SMALLEST -> 4;
                default -> 6;
            };
            x.setDemand(16, 16, 1);
            x.addComponent(0, 16, 1);
            x.plan();
            x.step();
            check.due(state + ": N", x.getCount(MrpPlanner.COUNT_ITEMS), items);
            check.due(state + ": P", x.getCount(MrpPlanner.COUNT_PERIODS), periods);
        }
    }
}

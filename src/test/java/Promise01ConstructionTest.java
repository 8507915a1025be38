import java.util.Map;

public final class Promise01ConstructionTest {
    private static final int[][] ITEMS = {
        {Integer.MIN_VALUE, 1}, {-1, 1}, {0, 1}, {1, 1}, {2, 2}, {9, 9},
        {15, 15}, {16, 16}, {17, 16}, {Integer.MAX_VALUE, 16}};
    private static final int[][] PERIODS = {
        {Integer.MIN_VALUE, 4}, {-1, 4}, {0, 4}, {3, 4}, {4, 4}, {5, 5}, {9, 9},
        {15, 15}, {16, 16}, {17, 16}, {Integer.MAX_VALUE, 16}};

    public static void main(String[] args) {
        Check check = new Check();
        for (int[] items : ITEMS) {
            for (int[] periods : PERIODS) {
                String call = "new MrpPlanner(" + items[0] + ", " + periods[0] + ")";
                fresh(check, call, new MrpPlanner(items[0], periods[0]), items[1], periods[1]);
            }
        }
        sizesStay(check);
        objectsAreApart(check);
        check.end();
    }

    private static void fresh(Check check, String call, MrpPlanner x, int items, int periods) {
        for (Map.Entry<String, Long> answer : Check.answers(x).entrySet()) {
            long want = switch (answer.getKey()) {
                case "ITEMS" -> items;
                case "PERIODS" -> periods;
                case "CURRENT" -> -1;
                default -> 0;
            };
            check.due(call + ": " + answer.getKey(), answer.getValue(), want);
        }
        check.due(call + ": the last cell is in range", x.setDemand(items - 1, periods - 1, 1), true);
        check.due(call + ": item N is not", x.setDemand(items, 0, 1), false);
        check.due(call + ": period P is not", x.setDemand(0, periods, 1), false);
        check.due(call + ": step()", x.step(), MrpPlanner.STEP_NO_PLAN);
        check.due(call + ": scrap(0, 1)", x.scrap(0, 1), false);
    }

    private static void sizesStay(Check check) {
        MrpPlanner x = Samples.busy();
        check.due("ITEMS after many calls", x.getCount(MrpPlanner.COUNT_ITEMS), 4);
        check.due("PERIODS after many calls", x.getCount(MrpPlanner.COUNT_PERIODS), 6);
    }

    private static void objectsAreApart(Check check) {
        MrpPlanner first = Samples.busy();
        Map<String, Long> before = Check.answers(first);
        fresh(check, "a second object", new MrpPlanner(4, 6), 4, 6);
        check.dueChanged("making a second object", before, first);
    }
}

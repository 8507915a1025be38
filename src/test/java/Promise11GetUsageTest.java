import java.util.Map;

public final class Promise11GetUsageTest {
    public static void main(String[] args) {
        Check check = new Check();
        MrpPlanner x = Samples.busy();
        Map<String, Long> before = Check.answers(x);
        int[][] usages = {{0, 2, 3, 0}, {0, 0, 0, 0}, {0, 0, 0, 4}, {0, 0, 0, 0}};
        for (int parent = -2; parent < 20; parent++) {
            for (int child = -2; child < 20; child++) {
                boolean inside = parent >= 0 && parent < 4 && child >= 0 && child < 4;
                String call = "getUsage(" + parent + ", " + child + ")";
                check.due(call, x.getUsage(parent, child), inside ? usages[parent][child] : 0);
            }
        }
        for (int far : new int[] {Integer.MIN_VALUE, Integer.MAX_VALUE}) {
            check.due("getUsage(" + far + ", 1)", x.getUsage(far, 1), 0);
            check.due("getUsage(0, " + far + ")", x.getUsage(0, far), 0);
            check.due("getUsage(" + far + ", " + far + ")", x.getUsage(far, far), 0);
        }
        check.dueChanged("getUsage", before, x);

        MrpPlanner full = Samples.full();
        check.due("getUsage(-1, 17)", full.getUsage(-1, 17), 0);
        check.due("getUsage(1, -15)", full.getUsage(1, -15), 0);
        check.due("getUsage(0, 16)", full.getUsage(0, 16), 0);
        check.due("getUsage(0, 15)", full.getUsage(0, 15), 1);
        check.end();
    }
}

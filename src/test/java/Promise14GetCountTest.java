import java.util.Map;

public final class Promise14GetCountTest {
    public static void main(String[] args) {
        Check check = new Check();
        MrpPlanner x = new MrpPlanner(5, 7);
        counts(check, "new", x, 5, 7, 0, -1);
        x.addComponent(0, 1, 2);
        x.addComponent(1, 2, 2);
        x.addComponent(2, 1, 2);
        x.addComponent(0, 1, 3);
        counts(check, "after two edges", x, 5, 7, 2, -1);
        x.plan();
        counts(check, "planned", x, 5, 7, 2, 0);
        for (int t = 1; t <= 7; t++) {
            x.step();
            counts(check, "after step " + t, x, 5, 7, 2, t);
        }
        x.step();
        counts(check, "after a step too many", x, 5, 7, 2, 7);

        Map<String, Long> before = Check.answers(x);
        for (int bad : new int[] {Integer.MIN_VALUE, -2, -1, 4, 5, Integer.MAX_VALUE}) {
            check.due("getCount(" + bad + ")", x.getCount(bad), 0);
        }
        check.dueChanged("getCount", before, x);

        x.removeComponent(0, 1);
        counts(check, "after a removal", x, 5, 7, 1, -1);
        counts(check, "full", Samples.full(), 16, 4, 32, -1);
        check.end();
    }

    private static void counts(Check check, String when, MrpPlanner x, int... want) {
        for (int what = 0; what < want.length; what++) {
            check.due(when + ": getCount(" + what + ")", x.getCount(what), want[what]);
        }
    }
}

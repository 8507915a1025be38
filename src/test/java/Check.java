import java.util.Arrays;
import java.util.Map;
import java.util.Set;
import java.util.TreeMap;
import java.util.TreeSet;

/** Counts and prints the answers that are not the ones due. */
final class Check {
    private static final String[] ITEM_FIELDS =
        {"LEAD", "RULE", "PARAM", "ONHAND", "LEVEL", "PASTDUE", "STOCK"};
    private static final String[] CELL_FIELDS =
        {"DEMAND", "RECEIPT", "GROSS", "NET", "PLANNED", "RELEASE", "PROJECTED"};

    /** More lines than these of one sentence would bury the first ones, which tell the most. */
    private static final int MOST_LINES = 10;

    /** Far more than any test needs: a call that does not end must fail its test, not hang it. */
    private static final int MOST_SECONDS = 300;

    private int wrong = 0;
    private int made = 0;
    private volatile String sentence = "";
    private int wrongHere = 0;

    Check() {
        Thread watch = new Thread(this::failWhenTimeIsUp);
        watch.setDaemon(true);
        watch.start();
    }

    /** What the checks from here on belong to; it is printed above those that are not as due. */
    void belongsTo(String sentence) {
        this.sentence = sentence;
        wrongHere = 0;
    }

    int made() {
        return made;
    }

    void due(String call, long got, long want) {
        made++;
        if (got != want) {
            wrong(call + " answered " + got + ", due is " + want);
        }
    }

    void due(String call, boolean got, boolean want) {
        made++;
        if (got != want) {
            wrong(call + " answered " + got + ", due is " + want);
        }
    }

    /** All periods of one plan value, in order. */
    void dueRow(MrpPlanner x, int item, int field, long... want) {
        for (int t = 0; t < want.length; t++) {
            String call = CELL_FIELDS[field] + " of " + item + " in " + t;
            due(call, x.getCell(item, t, field), want[t]);
        }
    }

    /** LEVEL of every item, in order. */
    void dueLevels(MrpPlanner x, long... want) {
        for (int i = 0; i < want.length; i++) {
            due("LEVEL of " + i, x.getItem(i, MrpPlanner.ITEM_LEVEL), want[i]);
        }
    }

    /** Just the named answers, and no others, are other than before. */
    void dueChanged(String call, Map<String, Long> before, MrpPlanner x, String... names) {
        made++;
        Set<String> want = new TreeSet<>(Arrays.asList(names));
        Set<String> got = changed(before, answers(x));
        if (!got.equals(want)) {
            wrong(call + " changed " + got + ", due is " + want);
        }
    }

    /** The call dropped the plan, and changed nothing but the named answers. */
    void dueDiscarded(String call, Map<String, Long> before, MrpPlanner x, String... names) {
        Map<String, Long> expected = new TreeMap<>(before);
        for (String name : before.keySet()) {
            if (isPlanAnswer(name)) {
                expected.put(name, 0L);
            }
        }
        expected.put("CURRENT", -1L);
        dueChanged(call, expected, x, names);
    }

    void wrong(String line) {
        wrong++;
        wrongHere++;
        if (wrongHere == 1 && !sentence.isEmpty()) {
            System.out.println(sentence);
        }
        if (wrongHere <= MOST_LINES) {
            System.out.println("  " + line);
        }
    }

    /** Says how it went, and ends the program with 1 if an answer was wrong. */
    void end() {
        System.out.println(wrong == 0 ? made + " checks are as due" : wrong + " checks are not as due");
        if (wrong != 0) {
            System.exit(1);
        }
    }

    /** Every answer that the getters give for arguments in range. */
    static Map<String, Long> answers(MrpPlanner x) {
        Map<String, Long> all = new TreeMap<>();
        int items = x.getCount(MrpPlanner.COUNT_ITEMS);
        int periods = x.getCount(MrpPlanner.COUNT_PERIODS);
        all.put("ITEMS", (long) items);
        all.put("PERIODS", (long) periods);
        all.put("EDGES", (long) x.getCount(MrpPlanner.COUNT_EDGES));
        all.put("CURRENT", (long) x.getCount(MrpPlanner.COUNT_CURRENT));
        for (int i = 0; i < items; i++) {
            for (int field = 0; field < ITEM_FIELDS.length; field++) {
                all.put(ITEM_FIELDS[field] + " " + i, x.getItem(i, field));
            }
            for (int child = 0; child < items; child++) {
                all.put("USAGE " + i + " " + child, (long) x.getUsage(i, child));
            }
            for (int t = 0; t < periods; t++) {
                for (int field = 0; field < CELL_FIELDS.length; field++) {
                    all.put(CELL_FIELDS[field] + " " + i + " " + t, x.getCell(i, t, field));
                }
            }
        }
        return all;
    }

    static boolean isPlanAnswer(String name) {
        String field = name.split(" ")[0];
        return Set.of("GROSS", "NET", "PLANNED", "RELEASE", "PROJECTED", "PASTDUE", "STOCK").contains(field);
    }

    private void failWhenTimeIsUp() {
        try {
            Thread.sleep(MOST_SECONDS * 1000L);
        } catch (InterruptedException e) {
            return;
        }
        System.out.println(sentence + "\n  did not end in " + MOST_SECONDS + " seconds");
        Runtime.getRuntime().halt(1);
    }

    private static Set<String> changed(Map<String, Long> before, Map<String, Long> after) {
        Set<String> names = new TreeSet<>();
        for (String name : after.keySet()) {
            if (!after.get(name).equals(before.get(name))) {
                names.add(name);
            }
        }
        return names;
    }
}

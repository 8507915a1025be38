import java.io.IOException;
import java.lang.reflect.Field;
import java.lang.reflect.Method;
import java.lang.reflect.Modifier;
import java.nio.file.Files;
import java.nio.file.Path;
import java.util.ArrayList;
import java.util.Arrays;
import java.util.List;
import java.util.stream.Collectors;

/** README.md: the answers of its example, and that it names every call and every constant with its value. */
public final class ReadmeTest {
    private final Check check = new Check();
    private final List<String> lines;
    private final List<String> ran = new ArrayList<>();

    private ReadmeTest(List<String> lines) {
        this.lines = lines;
    }

    public static void main(String[] args) throws IOException, IllegalAccessException {
        ReadmeTest test = new ReadmeTest(Files.readAllLines(Path.of("README.md")));
        test.example();
        test.constants();
        test.calls();
        test.check.due("README.md tells of .ci/run", test.lines.contains("    .ci/run"), true);
        test.check.end();
    }

    private void example() {
        MrpPlanner x = new MrpPlanner(2, 4);
        call("x.addComponent(0, 1, 3)", x.addComponent(0, 1, 3), "OK", 0);
        call("x.setItem(0, 1, MrpPlanner.LOT_FOR_LOT, 0)", x.setItem(0, 1, MrpPlanner.LOT_FOR_LOT, 0));
        call("x.setItem(1, 3, MrpPlanner.FIXED_QTY, 50)", x.setItem(1, 3, MrpPlanner.FIXED_QTY, 50));
        call("x.setOnHand(1, 10)", x.setOnHand(1, 10));
        call("x.setReceipt(1, 1, 5)", x.setReceipt(1, 1, 5));
        call("x.setDemand(0, 3, 20)", x.setDemand(0, 3, 20));
        call("x.plan()", x.plan(), "OK", 0);
        call("x.getItem(1, MrpPlanner.ITEM_LEVEL)", x.getItem(1, MrpPlanner.ITEM_LEVEL));
        call("x.getCell(0, 2, MrpPlanner.CELL_RELEASE)", x.getCell(0, 2, MrpPlanner.CELL_RELEASE));
        call("x.getCell(1, 2, MrpPlanner.CELL_GROSS)", x.getCell(1, 2, MrpPlanner.CELL_GROSS));
        call("x.getCell(1, 2, MrpPlanner.CELL_NET)", x.getCell(1, 2, MrpPlanner.CELL_NET));
        call("x.getCell(1, 2, MrpPlanner.CELL_PLANNED)", x.getCell(1, 2, MrpPlanner.CELL_PLANNED));
        call("x.getCell(1, 2, MrpPlanner.CELL_PROJECTED)", x.getCell(1, 2, MrpPlanner.CELL_PROJECTED));
        call("x.getCell(1, 0, MrpPlanner.CELL_RELEASE)", x.getCell(1, 0, MrpPlanner.CELL_RELEASE));
        call("x.getItem(1, MrpPlanner.ITEM_PASTDUE)", x.getItem(1, MrpPlanner.ITEM_PASTDUE));
        call("x.step()", x.step());
        call("x.scrap(1, 6)", x.scrap(1, 6));
        call("x.getItem(1, MrpPlanner.ITEM_STOCK)", x.getItem(1, MrpPlanner.ITEM_STOCK));
        call("x.step()", x.step());
        call("x.step()", x.step());
        call("x.getItem(1, MrpPlanner.ITEM_STOCK)", x.getItem(1, MrpPlanner.ITEM_STOCK));
        call("x.getCount(MrpPlanner.COUNT_CURRENT)", x.getCount(MrpPlanner.COUNT_CURRENT));
        call("x.setDemand(0, 3, 25)", x.setDemand(0, 3, 25));
        call("x.getCount(MrpPlanner.COUNT_CURRENT)", x.getCount(MrpPlanner.COUNT_CURRENT));
        call("x.step()", x.step(), "STEP_NO_PLAN", -1);
        sameAsWritten();
    }

    private void call(String call, long got, String name, long value) {
        check.due(call, got, value);
        ran.add(call + "; // " + name);
    }

    private void call(String call, long got) {
        ran.add(call + "; // " + got);
    }

    private void call(String call, boolean got) {
        ran.add(call + "; // " + got);
    }

    /** The example in README.md is the one that ran, with the answers that it got. */
    private void sameAsWritten() {
        List<String> written = new ArrayList<>();
        for (String line : lines) {
            if (line.startsWith("x.")) {
                written.add(line.replaceFirst(" +// ", " // ").replaceFirst(": .*", ""));
            }
        }
        check.due("number of calls of the example", written.size(), ran.size());
        for (int k = 0; k < ran.size() && k < written.size(); k++) {
            check.due("README.md has \"" + written.get(k) + "\", it ran as \"" + ran.get(k) + "\"",
                written.get(k).equals(ran.get(k)), true);
        }
        check.due("the example's constructor", lines.stream()
            .anyMatch(line -> line.startsWith("MrpPlanner x = new MrpPlanner(2, 4);")), true);
    }

    private void constants() throws IllegalAccessException {
        for (Field field : MrpPlanner.class.getFields()) {
            dueRow("| `" + field.getName() + "` | " + field.get(null) + " | ");
        }
    }

    private void calls() {
        for (Method method : MrpPlanner.class.getDeclaredMethods()) {
            if (Modifier.isPublic(method.getModifiers())) {
                String types = Arrays.stream(method.getParameterTypes())
                    .map(Class::getName).collect(Collectors.joining(", "));
                dueRow("| `" + method.getReturnType() + " " + method.getName() + "(" + types + ")` | ");
            }
        }
        check.due("README.md tells of the constructor", lines.stream()
            .anyMatch(line -> line.startsWith("`MrpPlanner(int items, int periods)` ")), true);
    }

    /** A row of a table begins so, but for the names of the parameters, which a compiled class does not have. */
    private void dueRow(String begin) {
        boolean found = lines.stream()
            .anyMatch(line -> line.replaceAll("\\bint \\w+([,)])", "int$1").startsWith(begin));
        check.due("README.md has the row \"" + begin + "\"", found, true);
    }
}

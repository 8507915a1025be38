import java.lang.reflect.Constructor;
import java.lang.reflect.Field;
import java.lang.reflect.Method;
import java.lang.reflect.Modifier;
import java.util.HashSet;
import java.util.Set;
import java.util.TreeSet;

/** The public face, and what of LANGUAGE.md can be seen on the compiled class. */
public final class FaceTest {
    private static final Set<String> CONSTANTS = Set.of(
        "int LOT_FOR_LOT = 0", "int FIXED_QTY = 1", "int PERIOD_ORDER = 2",
        "int OK = 0", "int ERR_RANGE = -1", "int ERR_CYCLE = -2", "int ERR_FULL = -3", "int PLAN_TOO_LARGE = -4",
        "int STEP_NO_PLAN = -1", "int STEP_DONE = -2", "int MAX_EDGES = 32", "long LIMIT = 1000000000000",
        "int ITEM_LEAD = 0", "int ITEM_RULE = 1", "int ITEM_PARAM = 2", "int ITEM_ONHAND = 3",
        "int ITEM_LEVEL = 4", "int ITEM_PASTDUE = 5", "int ITEM_STOCK = 6",
        "int CELL_DEMAND = 0", "int CELL_RECEIPT = 1", "int CELL_GROSS = 2", "int CELL_NET = 3",
        "int CELL_PLANNED = 4", "int CELL_RELEASE = 5", "int CELL_PROJECTED = 6",
        "int COUNT_ITEMS = 0", "int COUNT_PERIODS = 1", "int COUNT_EDGES = 2", "int COUNT_CURRENT = 3");

    private static final String CONSTRUCTOR = "MrpPlanner int int";

    private static final Set<String> METHODS = Set.of(
        "int addComponent int int int", "boolean removeComponent int int",
        "boolean setItem int int int int", "boolean setOnHand int int",
        "boolean setReceipt int int int", "boolean setDemand int int int",
        "int plan", "int step", "boolean scrap int int", "int getUsage int int",
        "long getItem int int", "long getCell int int int", "int getCount int");

    public static void main(String[] args) throws IllegalAccessException {
        Check check = new Check();
        check.due("the class is public and final", MrpPlanner.class.getModifiers(), Modifier.PUBLIC | Modifier.FINAL);
        check.due("number of nested classes", MrpPlanner.class.getDeclaredClasses().length, 0);
        constructors(check);
        methods(check);
        fields(check);
        sameAsWritten(check);
        check.end();
    }

    /** The lists above are the ones under "The public face" in the document. */
    private static void sameAsWritten(Check check) {
        if (!Document.isHere()) {
            System.out.println("../shared/DOC.md is not here: its public face is not compared");
            return;
        }
        Set<String> constants = new TreeSet<>();
        Set<String> calls = new TreeSet<>();
        for (String line : Document.sentences("The public face")) {
            if (line.startsWith("public static final ")) {
                constants.add(line.replaceAll("^public static final |L?;$", ""));
            } else if (line.startsWith("public ") && line.endsWith(")")) {
                calls.add(withoutNames(line.substring("public ".length())));
            }
        }
        Set<String> listed = new TreeSet<>(METHODS);
        listed.add(CONSTRUCTOR);
        check.due("the document's constants are the ones listed: " + constants, constants.equals(CONSTANTS), true);
        check.due("the document's calls are the ones listed: " + calls, calls.equals(listed), true);
    }

    /** A call as in METHODS: the names of its parameters are gone, since a compiled class does not have them. */
    private static String withoutNames(String call) {
        return call.replaceAll(" \\w+(?=[,)])", "").replaceAll("[ (,)]+", " ").strip();
    }

    private static void constructors(Check check) {
        Constructor<?>[] all = MrpPlanner.class.getDeclaredConstructors();
        check.due("number of constructors", all.length, 1);
        check.due("the constructor is public", Modifier.isPublic(all[0].getModifiers()), true);
        String made = all[0].getName() + types(all[0].getParameterTypes());
        check.due("the constructor is the document's: " + made, made.equals(CONSTRUCTOR), true);
    }

    private static void methods(Check check) {
        Set<String> open = new TreeSet<>();
        Set<String> openNames = new HashSet<>();
        for (Method m : MrpPlanner.class.getDeclaredMethods()) {
            check.due(m.getName() + " has at most seven parameters", m.getParameterCount() <= 7, true);
            if (!Modifier.isPrivate(m.getModifiers())) {
                open.add(m.getReturnType() + " " + m.getName() + types(m.getParameterTypes()));
                openNames.add(m.getName());
                check.due(m.getName() + " is public alone", m.getModifiers(), Modifier.PUBLIC);
            }
        }
        check.due("the public methods are the document's: " + open, open.equals(METHODS), true);
        for (Method m : MrpPlanner.class.getDeclaredMethods()) {
            if (Modifier.isPrivate(m.getModifiers())) {
                check.due("private " + m.getName() + " bears a public name", openNames.contains(m.getName()), false);
            }
        }
    }

    private static void fields(Check check) throws IllegalAccessException {
        Set<String> open = new TreeSet<>();
        int held = 0;
        for (Field f : MrpPlanner.class.getDeclaredFields()) {
            boolean isConstant = Modifier.isStatic(f.getModifiers());
            if (isConstant) {
                check.due(f.getName() + " is final", Modifier.isFinal(f.getModifiers()), true);
                check.due(f.getName() + " is an int or a long",
                    f.getType() == int.class || f.getType() == long.class, true);
            } else {
                held++;
                Class<?> unit = f.getType().isArray() ? f.getType().getComponentType() : f.getType();
                check.due(f.getName() + " is of a number type or an array of one", unit.isPrimitive(), true);
            }
            if (!Modifier.isPrivate(f.getModifiers())) {
                boolean isPublic = isConstant && Modifier.isPublic(f.getModifiers());
                check.due(f.getName() + " is a public constant", isPublic, true);
                open.add(f.getType() + " " + f.getName() + (isPublic ? " = " + f.get(null) : ""));
            }
        }
        check.due("the public constants are the document's: " + open, open.equals(CONSTANTS), true);
        check.due("at most forty fields beside the constants", held <= 40, true);
    }

    private static String types(Class<?>[] all) {
        StringBuilder names = new StringBuilder();
        for (Class<?> type : all) {
            names.append(' ').append(type);
        }
        return names.toString();
    }
}

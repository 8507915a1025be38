public final class WordsLevelTest {
    public static void main(String[] args) {
        Section section = new Section("Words used below: LEVEL");
        section.test("LEVEL (low-level code) of an item is 0 if it is the child of no edge;"
                + " otherwise it is 1 + the greatest LEVEL among its parents.",
            WordsLevelTest::oneMoreThanTheGreatest);
        section.test("LEVEL always follows the current edges, whether or not there is a plan.",
            WordsLevelTest::followsTheEdges);
        section.end();
    }

    private static void oneMoreThanTheGreatest(Check check) {
        MrpPlanner x = new MrpPlanner(5, 4);
        check.dueLevels(x, 0, 0, 0, 0, 0);
        x.addComponent(3, 0, 1);
        check.dueLevels(x, 1, 0, 0, 0, 0);
        x.addComponent(0, 2, 9);
        check.dueLevels(x, 1, 0, 2, 0, 0);
        // An edge above pushes all down that hangs below it.
        x.addComponent(1, 3, 1);
        check.dueLevels(x, 2, 0, 3, 1, 0);
        // A parent with a lower LEVEL does not pull the child up.
        x.addComponent(1, 2, 1);
        check.dueLevels(x, 2, 0, 3, 1, 0);
        x.addComponent(4, 1, 1);
        check.dueLevels(x, 3, 1, 4, 2, 0);

        // The longest chain there is, along the numbers and against them.
        for (int way = -1; way <= 1; way += 2) {
            MrpPlanner chain = Samples.chain(16, 4, way, 1);
            for (int k = 0; k < 16; k++) {
                int item = way > 0 ? k : 15 - k;
                check.due("LEVEL in a chain", chain.getItem(item, MrpPlanner.ITEM_LEVEL), k);
            }
        }
    }

    private static void followsTheEdges(Check check) {
        MrpPlanner x = new MrpPlanner(3, 4);
        x.addComponent(0, 1, 1);
        x.addComponent(1, 2, 1);
        check.dueLevels(x, 0, 1, 2);
        x.plan();
        check.dueLevels(x, 0, 1, 2);
        x.step();
        check.dueLevels(x, 0, 1, 2);
        x.addComponent(2, 0, 1);
        check.dueLevels(x, 0, 1, 2);
        x.addComponent(0, 1, 9);
        check.dueLevels(x, 0, 1, 2);
        // With a plan and without one, a removal lifts what hung below it.
        x.plan();
        x.removeComponent(0, 1);
        check.dueLevels(x, 0, 0, 1);
        x.removeComponent(1, 2);
        check.dueLevels(x, 0, 0, 0);
        x.addComponent(2, 0, 1);
        check.dueLevels(x, 1, 0, 0);
        x.plan();
        x.setItem(2, 3, MrpPlanner.FIXED_QTY, 4);
        check.dueLevels(x, 1, 0, 0);
        check.dueLevels(State.TOO_LARGE.make(), 0, 1, 2, 3, 4, 5, 6, 7, 8, 9, 10);
    }
}

import java.util.ArrayList;
import java.util.List;
import java.util.function.Consumer;

/**
 * The tests of one section of the document, each under the sentence that it
 * belongs to. A sentence without a test, and a test whose sentence the section
 * no longer has, count as wrong: the document must then be read again.
 */
final class Section {
    private final String title;
    private final Check check = new Check();
    private final List<String> tested = new ArrayList<>();

    Section(String title) {
        this.title = title;
    }

    void test(String sentence, Consumer<Check> test) {
        tested.add(sentence);
        check.belongsTo(title + ", \"" + sentence + "\"");
        int before = check.made();
        try {
            test.accept(check);
        } catch (RuntimeException e) {
            check.wrong("a call threw " + e);
        }
        if (check.made() == before) {
            check.wrong("the test looked at nothing");
        }
    }

    void end() {
        check.belongsTo(title);
        if (Document.isHere()) {
            compare(Document.sentences(title));
        } else {
            System.out.println("../shared/DOC.md is not here: its sentences are not compared");
        }
        System.out.println(title + ": " + tested.size() + " sentences");
        check.end();
    }

    private void compare(List<String> written) {
        for (String sentence : written) {
            check.due("has a test: \"" + sentence + "\"", tested.contains(sentence), true);
        }
        for (String sentence : tested) {
            check.due("is in the document: \"" + sentence + "\"", written.contains(sentence), true);
        }
    }
}

import java.io.IOException;
import java.lang.reflect.InvocationTargetException;
import java.lang.reflect.Method;
import java.nio.file.Files;
import java.nio.file.Path;
import java.util.Arrays;
import java.util.Comparator;

/** Runs each test that stands at words of the document, and looks whether all its words have one. */
final class BoundaryTests {
    private static final Class<?>[] TESTS = {
        EffectsTests.class, TickTests.class, TextTests.class, ReadingTests.class, ActionTests.class,
        ForecastTests.class, ScriptTests.class, SlotTests.class};
    private static final Path DOCUMENT = Path.of("../shared/DOC.md");

    // What names no case of its own: titles, and the sections that promise nothing.
    private static final String[][] NOTHING_TO_TEST = {
        {"EXCEPTIONS", "The constants:"},
        {"EXCEPTIONS", "The constructor and the methods follow, a promise each: the signature, then what it does."},
        {"Promise 2", "---- text"},
        {"Promise 6", "---- what there is"},
        {"Promise 12", "---- actions"},
        {"Promise 25", "---- scripts, simulations"},
        {"Promise 27", "---- save slots"}};

    private BoundaryTests() {
    }

    public static void main(String[] args) throws IOException, IllegalAccessException {
        if (!Files.exists(DOCUMENT)) {
            System.out.println("no " + DOCUMENT + " here: start the tests by .ci/run");
            System.exit(1);
        }
        Document document = Document.read(DOCUMENT);
        for (Class<?> tests : TESTS) {
            Method[] methods = tests.getDeclaredMethods();
            Arrays.sort(methods, Comparator.comparing(Method::getName));
            for (Method method : methods) {
                Sentence sentence = method.getAnnotation(Sentence.class);
                if (sentence != null) {
                    quote(document, method, sentence);
                    run(method, sentence);
                }
            }
        }
        lookForWordsWithoutATest(document);
        Due.end("BoundaryTests");
    }

    private static void quote(Document document, Method method, Sentence sentence) {
        Due.begin(method.getDeclaringClass().getName() + "." + method.getName());
        for (String words : sentence.says()) {
            Due.same("\"" + words + "\" stands in " + sentence.in(), true, document.quote(sentence.in(), words));
        }
    }

    private static void run(Method method, Sentence sentence) throws IllegalAccessException {
        String name = method.getDeclaringClass().getName() + "." + method.getName();
        Due.begin(name + " (" + sentence.in() + ", \"" + String.join(" ", sentence.says()) + "\")");
        int before = Due.comparedSoFar();
        try {
            method.invoke(null);
        } catch (InvocationTargetException e) {
            Due.same("the test itself", "no exception", e.getCause().toString());
        }
        Due.same("a test that compares something", true, Due.comparedSoFar() > before);
    }

    private static void lookForWordsWithoutATest(Document document) {
        Due.begin("words without a test");
        for (String[] words : NOTHING_TO_TEST) {
            Due.same("\"" + words[1] + "\" stands in " + words[0], true, document.quote(words[0], words[1]));
        }
        for (String section : document.sections()) {
            if (section.startsWith("Promise ") || section.matches("[A-Z][A-Z ]+")) {
                Due.same(section, "[]", document.notQuoted(section).toString());
            }
        }
    }
}

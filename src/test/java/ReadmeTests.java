import java.io.IOException;
import java.lang.reflect.Method;
import java.lang.reflect.Modifier;
import java.nio.file.Files;
import java.nio.file.Path;
import java.util.ArrayList;
import java.util.List;
import java.util.stream.Stream;

/** What README.md says: each call that it shows with an answer, and that it leaves out no method and no test. */
final class ReadmeTests extends Bench {
    private static final Path README = Path.of("README.md");
    private static final Path TESTS = Path.of("src/test/java");

    private final String whole;
    // The calls with answers, in their order, as "call // answer".
    private final List<String> shown = new ArrayList<>();
    private int seen = 0;

    private ReadmeTests(String whole) {
        this.whole = whole;
        for (String line : whole.split("\n")) {
            if (line.matches("train\\.\\w+\\(.*\\); +// [-0-9.]+: .+")) {
                shown.add(line.replaceFirst("; +// ", " // ").replaceFirst(": .*", ""));
            }
        }
    }

    public static void main(String[] args) throws IOException {
        if (!Files.exists(README)) {
            System.out.println("no " + README + " here: start the tests by .ci/run");
            System.exit(1);
        }
        ReadmeTests tests = new ReadmeTests(Files.readString(README));
        tests.examples();
        tests.namesEachMethod();
        tests.namesEachTest();
        Due.end("ReadmeTests");
    }

    /** The next call that is shown is this one, and its answer is the one that is shown. */
    private void next(String call, Object got) {
        String line = seen < shown.size() ? shown.get(seen) : "nothing";
        seen++;
        Due.same("example " + seen + " of README.md", line, call + " // " + got);
    }

    private void examples() {
        EffectTrain train = new EffectTrain();
        next("train.tick(20)", train.tick(20));
        next("train.effect(0, 8)", train.effect(0, 8));
        next("train.economy()", train.economy());
        next("train.set(0, 60)", train.set(0, 60));
        next("train.wash(1, 5)", train.wash(1, 5));
        next("train.neighbor(0, true)", train.neighbor(0, true));
        next("train.ahead(0, 10, 1)", train.ahead(0, 10, 1));
        next("train.undo()", train.undo());
        next("train.clearText()", train.clearText());
        type(train, shownText());
        next("train.errorPosition()", train.errorPosition());
        next("train.load()", train.load());
        next("train.tick(3)", train.tick(3));
        next("train.save(0)", train.save(0));
        next("train.washGain(1, 2, 50)", train.washGain(1, 2, 50));
        next("train.scaledAfter(0, 3)", train.scaledAfter(0, 3));
        next("train.steamFor(150, 5)", train.steamFor(150, 5));
        next("train.bestTurns(3, false)", train.bestTurns(3, false));
        next("train.runScript(2, 2015010010L)", train.runScript(2, 2015010010L));
        next("train.restore(0)", train.restore(0));
        Due.same("examples of README.md", shown.size(), seen);
    }

    /** The text that is shown: all that stands in quotes between "String text" and the end of its statement. */
    private String shownText() {
        int from = whole.indexOf("String text = ");
        int to = whole.indexOf("\";", from);
        StringBuilder text = new StringBuilder();
        if (from >= 0 && to >= 0) {
            String[] parts = whole.substring(from, to).split("\"");
            for (int k = 1; k < parts.length; k += 2) {
                text.append(parts[k]);
            }
        }
        return text.toString();
    }

    private void namesEachMethod() {
        for (Method method : EffectTrain.class.getDeclaredMethods()) {
            if (Modifier.isPublic(method.getModifiers())) {
                Due.same("README.md names " + method.getName(), true, whole.contains("`" + method.getName() + "`"));
            }
        }
        Due.same("README.md names NONE", true, whole.contains("`EffectTrain.NONE`, " + EffectTrain.NONE + ","));
    }

    private void namesEachTest() throws IOException {
        Due.same("README.md tells how to run the tests", true, whole.contains("\n    .ci/run\n"));
        try (Stream<Path> files = Files.list(TESTS)) {
            files.forEach(file -> {
                String name = file.getFileName().toString().replace(".java", "");
                Due.same("README.md names " + name, true, whole.contains("`" + name + "`")
                    || whole.contains("`@" + name + "`"));
            });
        }
    }
}

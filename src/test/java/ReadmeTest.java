import java.io.IOException;
import java.nio.charset.StandardCharsets;
import java.nio.file.Files;
import java.nio.file.Path;
import java.util.ArrayList;
import java.util.List;
import java.util.regex.Matcher;
import java.util.regex.Pattern;
import java.util.stream.Stream;
import javax.tools.ToolProvider;

/** README.md agrees with the document and with the class: its words, its example and its list of tests. */
public final class ReadmeTest {
    private static final Path README = Path.of("README.md");
    private static final Path DOC = Path.of("../shared/DOC.md");
    private static final Path TESTS = Path.of("src/test/java");

    /** Sentences of 'Terms', 2 and of 'What it is' that the page repeats: its words, the document's. */
    private static final String[][] SENTENCES = {
        {"Refused calls answer NONE (-1), or false, and change nothing but THE TEXT, which a call that can read it empties, "
            + "whatever it answers.",
            "Refused calls answer NONE, or false, and change nothing but THE TEXT, which a call that can read it empties, "
            + "whatever it answers."},
        {"An object is used for at most 512 calls; what later calls answer is free.",
            "An object is used for at most 512 calls after it has been made; what later calls answer is free."},
        {"four signs a call, of v the highest byte first; sign answers how many signs it has.",
            "Four signs come behind THE TEXT, of v the highest byte first: how many it has."},
        {"a call that answers -2 tells none.", "A call that answers -2 tells no ROW (it stays)."}};

    private ReadmeTest() {
    }

    public static void main(String[] args) throws Exception {
        Due due = new Due();
        String page = Files.readString(README);
        sentences(due, plain(page.replace("`", "")));
        example(due, page, Path.of(args.length > 0 ? args[0] : "src/main/java/CoffeeThatSlops.java"));
        texts(due);
        files(due, page);
        due.end();
    }

    private static void sentences(Due due, String page) throws IOException {
        for (String[] sentence : SENTENCES) {
            due.is("README.md says: " + sentence[0], page.contains(sentence[0]), true);
            if (Files.exists(DOC)) {
                due.is("the document says: " + sentence[1], plain(Files.readString(DOC)).contains(sentence[1]), true);
            }
        }
        // "change nothing" alone would leave out that THE TEXT is emptied
        for (int at = page.indexOf("change nothing"); at >= 0; at = page.indexOf("change nothing", at + 1)) {
            due.is("README.md says what is changed all the same", page.startsWith("change nothing but THE TEXT", at), true);
        }
    }

    /** The example is compiled beside the class, as the page says, and prints what the page says. */
    private static void example(Due due, String page, Path main) throws Exception {
        String program = block(page, "java");
        Path out = Files.createTempDirectory("readme");
        Path file = out.resolve("Carried.java");
        Path printed = out.resolve("printed");
        Files.writeString(file, program);
        int wrong = ToolProvider.getSystemJavaCompiler().run(null, null, null, "-encoding", "UTF-8", "-d", out.toString(),
            main.toString(), file.toString());
        due.is("the example compiles", wrong, 0);
        String java = Path.of(System.getProperty("java.home"), "bin", "java").toString();
        Process run = new ProcessBuilder(java, "-cp", out.toString(), "Carried").redirectErrorStream(true)
            .redirectOutput(printed.toFile()).start();
        due.is("the example ends", run.waitFor(), 0);
        String got = Files.readString(printed, StandardCharsets.UTF_8);
        due.is("the example prints what README.md says, it printed\n" + got, got.equals(block(page, "text")), true);
        try (Stream<Path> made = Files.list(out)) {
            for (Path left : made.toList()) {
                Files.delete(left);
            }
        }
        Files.delete(out);
    }

    /** What the page says of texts. */
    private static void texts(Due due) {
        CoffeeThatSlops x = new CoffeeThatSlops();
        for (int i = 1; i <= 20; i++) {
            due.is("sign answers how many signs it has", x.sign(0x73373B73), 4 * i);
        }
        due.is("at most 80 signs", x.sign(0), CoffeeThatSlops.NONE);
        due.is("cut", x.end(2), true);
        due.is("a WALK's TICKS", x.walk(2), 7);
        due.is("emptied", x.count(8), 0);
        due.is("a LAW", Spell.law(x, 1, "p"), 0);
        due.is("the sign at 2", Spell.walk(x, 2, "s7x"), -1 - 2);
        due.is("emptied, whatever it answers", x.count(8), 0);
        due.is("the sign at 1", Spell.law(x, 1, "px"), -1 - 1);
        due.is("no such WALK", Spell.walk(x, 4, "s9"), -100);
        due.is("no such LAW", Spell.law(x, 3, "s"), -100);
        due.is("emptied, whatever it answers", x.count(8), 0);
        x.steps(2);
        due.row("what was told before stays: the WALK", x, 7, 0, 0);
        due.is("what was told before stays: the LAW", x.gives(1, 77), 77);
        due.is("an empty text", Spell.law(x, 1, ""), 0);
        due.is("there is no such LAW then", x.count(4), 0);
        due.noSuch("cell", () -> x.cell(2, 0, 0));
        due.noSuch("of", () -> x.of(2, 0));
        due.noSuch("gives", () -> x.gives(1, 0));
        due.noSuch("row", () -> x.row(3));
    }

    /** Each file of the tests stands in the page's table, and each name there is a file. */
    private static void files(Due due, String page) throws IOException {
        String table = page.substring(page.indexOf("| --- |"));
        List<String> names = new ArrayList<>();
        Matcher m = Pattern.compile("(?m)^\\| ([^|]*) \\|").matcher(table);
        while (m.find()) {
            for (String name : m.group(1).replace("`", "").split(", ")) {
                names.add(name + ".java");
            }
        }
        names.remove("---.java");
        for (String name : names) {
            due.is(name + " is a file", Files.exists(TESTS.resolve(name)), true);
        }
        try (Stream<Path> tests = Files.list(TESTS)) {
            for (Path test : tests.toList()) {
                due.is(test + " stands in the table", names.contains(test.getFileName().toString()), true);
            }
        }
    }

    private static String block(String page, String kind) {
        Matcher m = Pattern.compile("(?s)```" + kind + "\\n(.*?)```").matcher(page);
        return m.find() ? m.group(1) : "";
    }

    private static String plain(String text) {
        return text.replaceAll("\\s+", " ").trim();
    }
}

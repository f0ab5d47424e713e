import java.io.IOException;
import java.nio.file.Files;
import java.nio.file.Path;
import java.util.ArrayList;
import java.util.LinkedHashMap;
import java.util.List;
import java.util.Map;
import java.util.regex.Matcher;
import java.util.regex.Pattern;

/**
 * Tests of boundary cases. Each names the promise and the document's words for the case. The words must stand in that
 * promise or ahead of the promises, and every sentence of the document must have a test.
 */
final class Edges {
    private static final Path DOC = Path.of("../shared/DOC.md");
    private static final int AHEAD = 0;

    private record Test(int promise, String words) {
    }

    private final List<Test> tests = new ArrayList<>();
    private String about = "";
    private int asked = 0;
    private int wrong = 0;

    /** One test: which promise, the document's words for the case, the calls that bring it about. */
    void test(int promise, String words, Runnable calls) {
        tests.add(new Test(promise, words));
        about = "promise " + promise + ", \"" + words + "\": ";
        int before = asked;
        calls.run();
        is("the test asks something", asked > before, true);
    }

    /** A new object. */
    Asked cup(String... calls) {
        return new Asked(this).does(calls);
    }

    void is(String call, Object got, Object want) {
        asked++;
        if (!got.equals(want)) {
            wrong++;
            System.out.println(about + call + " answered " + got + ", due is " + want);
        }
    }

    void end() throws IOException {
        about = "";
        if (Files.exists(DOC)) {
            compareWith(sections(Files.readString(DOC)));
        } else {
            System.out.println(DOC + " is not there: the tests' words are not held against it");
        }
        System.out.println(tests.size() + " tests of boundary cases, " + asked + " answers asked, " + wrong + " not as due");
        if (wrong != 0) {
            System.exit(1);
        }
    }

    private void compareWith(Map<Integer, String> sections) {
        for (Test t : tests) {
            boolean stands = sections.getOrDefault(t.promise, "").contains(t.words) || sections.get(AHEAD).contains(t.words);
            is("the words of promise " + t.promise + " \"" + t.words + "\" stand there", stands, true);
        }
        for (int promise : sections.keySet()) {
            for (String sentence : sections.get(promise).split("(?<=[^.\\s]\\.) ")) {
                boolean tested = tests.stream().anyMatch(t -> (promise == AHEAD || promise == t.promise)
                    && (sentence.contains(t.words) || t.words.contains(sentence)));
                is("promise " + promise + ", \"" + sentence + "\" has a test", tested, true);
            }
        }
        is("promises and what stands ahead of them", sections.size(), 51);
    }

    /** What the document says in each promise (0: ahead of them), its white space made one blank. */
    private static Map<Integer, String> sections(String doc) {
        Map<Integer, String> sections = new LinkedHashMap<>();
        String use = doc.substring(doc.indexOf("An object is used"), doc.indexOf("## The public face"));
        String terms = doc.substring(doc.indexOf("## Terms") + "## Terms".length(), doc.indexOf("## Promise 1:"));
        terms = terms.replaceAll("(?m)^Ahead of the calls .*$|^```.*$|^\\d+\\. ", "");
        sections.put(AHEAD, plain(use + " " + terms));
        Matcher m = Pattern.compile("(?ms)^## Promise (\\d+):[^\\n]*\\n\\s*`[^`]*`: (.*?)(?=^## )").matcher(doc);
        while (m.find()) {
            sections.put(Integer.parseInt(m.group(1)), plain(m.group(2)));
        }
        return sections;
    }

    private static String plain(String text) {
        return text.replaceAll("\\s+", " ").trim();
    }
}

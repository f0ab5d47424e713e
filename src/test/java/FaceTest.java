import java.lang.reflect.Constructor;
import java.lang.reflect.Field;
import java.lang.reflect.Method;
import java.lang.reflect.Modifier;
import java.nio.file.Files;
import java.nio.file.Path;
import java.util.ArrayList;
import java.util.Arrays;
import java.util.HashSet;
import java.util.List;
import java.util.Set;
import java.util.TreeSet;
import java.util.regex.Matcher;
import java.util.regex.Pattern;

/** The class has the document's face and no other, and its file keeps to what can be read off of LANGUAGE.md. */
public final class FaceTest {
    private static final String[] FACE = {
        "boolean cup(int,int,int)", "int set(int,int)", "int wall(int,int)", "int sheet(int,int,int,int)",
        "int fresh()", "boolean tilt(int,int)", "int tick(int,int)", "int cell(int,int,int)", "int of(int,int)",
        "int sign(int)", "boolean end(int)", "int walk(int)", "int law(int)", "int gives(int,int)", "int steps(int)",
        "int go(int,int,int)", "int swing(int)", "int dies(int,int)", "int worst(int)", "int would(int,int)",
        "int odds(int,int)", "int full(int)", "int leads(int,int)", "int plan(int)", "int helps(int,int)",
        "int layers(int)", "int off(int,int,int)", "int few(int,int)", "int best(int,int)", "int lid(int,int)",
        "int form(int)", "int turn(int,int)", "int door(int)", "int two(int)", "int stop(int)", "int pause(int,int)",
        "long stir(int)", "int spot(int)", "int wipe()", "int far(int,int)", "int who()", "int film(int,int,int,int)",
        "int fits(int,int)", "int reads()", "int seed(int)", "boolean keep(int)", "boolean again(int)",
        "int count(int)", "long row(int)"};

    private static final String[] RULED_OUT = {
        "->", "::", "\\bsynchronized\\b", "\\bassert\\b", "\\bfinally\\b", "\\bSystem\\.(?!arraycopy)", "\\bThread\\b",
        "\\bRandom\\b", "\\bString\\.format", "\\bstatic\\s*\\{", "\\bcatch\\b", "Exact\\(", "\\bNaN\\b", "\\bprotected\\b"};

    private static final Path DOC = Path.of("../shared/DOC.md");

    public static void main(String[] args) throws Exception {
        Due due = new Due();
        members(due);
        nested(due);
        if (args.length > 0) {
            String text = Files.readString(Path.of(args[0]));
            source(due, text);
            if (Files.exists(DOC)) {
                printed(due, text, Files.readString(DOC));
            }
        }
        due.end();
    }

    private static void members(Due due) {
        Class<?> type = CoffeeThatSlops.class;
        due.is("public and final", type.getModifiers(), Modifier.PUBLIC | Modifier.FINAL);
        due.is("NONE", CoffeeThatSlops.NONE, -1);
        Set<String> open = new TreeSet<>();
        Set<String> names = new HashSet<>();
        for (Method m : type.getDeclaredMethods()) {
            if (!Modifier.isPrivate(m.getModifiers())) {
                open.add(shape(m));
                names.add(m.getName());
            }
        }
        Set<String> wanted = new TreeSet<>(Arrays.asList(FACE));
        due.is("the face is " + open, open.equals(wanted), true);
        for (Method m : type.getDeclaredMethods()) {
            if (Modifier.isPrivate(m.getModifiers())) {
                due.is("private " + m.getName() + " bears a public name", names.contains(m.getName()), false);
            }
        }
        for (Constructor<?> c : type.getDeclaredConstructors()) {
            due.is("constructor " + c, c.getModifiers() == Modifier.PUBLIC && c.getParameterCount() == 0, true);
        }
        for (Field f : type.getDeclaredFields()) {
            boolean ok = Modifier.isPrivate(f.getModifiers()) || f.getName().equals("NONE");
            due.is("field " + f.getName() + " is hidden", ok, true);
            if (Modifier.isStatic(f.getModifiers())) {
                due.is("static field " + f.getName() + " is final", Modifier.isFinal(f.getModifiers()), true);
            }
        }
        for (String name : new String[] {"cell", "of", "gives", "row"}) {
            due.is(name + " tells its exception", tellsItsException(type, name), true);
        }
    }

    private static boolean tellsItsException(Class<?> type, String name) {
        for (Method m : type.getDeclaredMethods()) {
            if (m.getName().equals(name)) {
                Class<?>[] thrown = m.getExceptionTypes();
                return thrown.length == 1 && thrown[0] == java.util.NoSuchElementException.class;
            }
        }
        return false;
    }

    private static String shape(Method m) {
        StringBuilder sb = new StringBuilder(m.getReturnType() + " " + m.getName() + "(");
        for (int i = 0; i < m.getParameterCount(); i++) {
            sb.append(i == 0 ? "" : ",").append(m.getParameterTypes()[i]);
        }
        return sb.append(")").toString();
    }

    private static void nested(Due due) {
        Class<?>[] inside = CoffeeThatSlops.class.getDeclaredClasses();
        due.is("at most twelve classes", inside.length + 1 <= 12, true);
        Set<String> names = new HashSet<>();
        for (String shape : FACE) {
            names.add(shape.substring(shape.indexOf(' ') + 1, shape.indexOf('(')));
        }
        for (Class<?> c : inside) {
            due.is(c + " is private and static",
                Modifier.isPrivate(c.getModifiers()) && Modifier.isStatic(c.getModifiers()), true);
            int fields = 0;
            for (Field f : c.getDeclaredFields()) {
                fields += Modifier.isStatic(f.getModifiers()) ? 0 : 1;
            }
            due.is(c + " has at most twenty fields", fields <= 20, true);
            for (Method m : c.getDeclaredMethods()) {
                due.is(c + "." + m.getName() + " bears a public name", names.contains(m.getName()), false);
                due.is(c + "." + m.getName() + " takes at most seven", m.getParameterCount() <= 7, true);
            }
        }
    }

    private static void source(Due due, String text) {
        String code = text.replaceAll("(?s)/\\*.*?\\*/", "").replaceAll("//[^\\n]*", "");
        for (String ruledOut : RULED_OUT) {
            Matcher m = Pattern.compile(ruledOut).matcher(code);
            due.is("the file has " + ruledOut, m.find(), false);
        }
        Matcher imports = Pattern.compile("import ([^;]*);").matcher(code);
        while (imports.find()) {
            String name = imports.group(1);
            boolean ok = name.equals("java.util.Arrays") || name.equals("java.util.NoSuchElementException");
            due.is("import " + name, ok, true);
        }
        Matcher thrown = Pattern.compile("throw new (\\w+)\\(").matcher(code);
        while (thrown.find()) {
            due.is("throws " + thrown.group(1), thrown.group(1).equals("NoSuchElementException"), true);
        }
    }

    /** The face as the document prints it, line by line, and its calls behind the words that stand ahead of them. */
    private static void printed(Due due, String text, String doc) {
        List<String> open = new ArrayList<>();
        Matcher m = Pattern.compile("(?m)^(import .*;|public .* \\{|    public .*)$").matcher(text);
        while (m.find()) {
            if (!m.group(1).equals("import java.util.Arrays;")) {
                open.add(m.group(1).trim().replaceAll(" \\{$", "").replaceAll("\\)( throws \\w+)?$", ")$1;"));
            }
        }
        String face = doc.substring(doc.indexOf("```java\n") + 8, doc.indexOf("\n}\n```"));
        List<String> wanted = new ArrayList<>();
        for (String line : face.split("\n")) {
            if (!line.isBlank()) {
                wanted.add(line.trim().replaceAll(" \\{$", ""));
            }
        }
        due.is("lines of the face", open.size(), wanted.size());
        for (String line : wanted) {
            due.is("the face has: " + line, open.contains(line), true);
        }
        for (String line : open) {
            due.is("the document prints: " + line, wanted.contains(line), true);
        }
        sections(due, text, doc);
    }

    private static void sections(Due due, String text, String doc) {
        Matcher m = Pattern.compile("(?m)^Ahead of the calls (.*) the interface says: (---- .*)\\.$").matcher(doc);
        int sections = 0;
        while (m.find()) {
            sections++;
            String ahead = "    // " + m.group(2) + "\n";
            due.is("the file has " + ahead, text.contains(ahead), true);
            String behind = text.substring(text.indexOf(ahead) + ahead.length());
            String section = behind.substring(0, behind.indexOf("\n    // ----"));
            StringBuilder calls = new StringBuilder();
            Matcher call = Pattern.compile("(?m)^    public \\w+ (\\w+)\\(").matcher(section);
            while (call.find()) {
                calls.append(calls.length() == 0 ? "" : ", ").append("`").append(call.group(1)).append("`");
            }
            due.is("behind " + m.group(2) + " are " + calls, calls.toString().equals(m.group(1)), true);
        }
        due.is("sections", sections, 9);
    }
}

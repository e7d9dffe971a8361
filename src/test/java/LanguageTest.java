import java.io.IOException;
import java.lang.reflect.Field;
import java.lang.reflect.Method;
import java.lang.reflect.Modifier;
import java.nio.file.Files;
import java.nio.file.Path;
import java.util.ArrayList;
import java.util.List;
import java.util.Set;
import java.util.TreeSet;
import java.util.regex.Matcher;
import java.util.regex.Pattern;

/** What can be seen of ../shared/LANGUAGE.md in the source itself, by the numbers of its rules. It runs in the project's folder. */
public final class LanguageTest {
    private static final Path SOURCE = Path.of("src/main/java/RadioCues.java");
    private static final Path DOCUMENT = Path.of("../shared/DOC.md");
    private static final Set<String> PUBLIC = Set.of("set", "sound", "cue", "takeOut", "move", "goal", "begin", "pass", "ofCue",
        "ofReel", "ofSound", "played", "ofChannel", "loud", "count", "rest", "becomes", "leastWind", "ifMoved", "readyIn", "put",
        "wipe", "fault", "carryOut", "undo", "save", "restore");
    private static final Set<String> CONSTANTS = Set.of("NO_SUCH", "BAD_VALUE", "BAD_TEXT", "TOO_MANY", "NOT_POSSIBLE", "NONE",
        "WIND", "SLAM", "FADE", "LOUD");
    private static final Set<String> LIBRARY = Set.of("System.arraycopy", "Math.max", "Math.min", "Math.abs");
    private static int wrong = 0;

    private LanguageTest() { }

    public static void main(String[] args) throws IOException {
        String code = withoutComments(Files.readString(SOURCE));
        face(code);
        faceOfDocument(code);
        members();
        words(code);
        library(code);
        lengths(code);
        depths(code);
        System.out.println(wrong == 0 ? "the source keeps to the rules that are looked at" : wrong + " faults of language");
        if (wrong != 0) {
            System.exit(1);
        }
    }

    private static void fault(int rule, String text) {
        wrong++;
        System.out.println("rule " + rule + ": " + text);
    }

    private static String withoutComments(String source) {
        return source.replaceAll("(?s)/\\*.*?\\*/", "").replaceAll("//[^\n]*", "");
    }

    private static List<String> all(String pattern, String text) {
        List<String> found = new ArrayList<>();
        Matcher m = Pattern.compile(pattern).matcher(text);
        while (m.find()) {
            found.add(m.group(m.groupCount()));
        }
        return found;
    }

    private static void face(String code) {
        Set<String> names = new TreeSet<>(all("public int (\\w+)\\(", code));
        if (!names.equals(new TreeSet<>(PUBLIC))) {
            fault(1, "the public methods are " + names);
        }
        if (all("\\b(public)\\b", code).size() != PUBLIC.size() + 4) {
            fault(1, "there are other public members than the document's");
        }
        for (String name : all("\n    (?!    )(?:private )?(?:static )?[\\w\\[\\]]+ (\\w+)\\([^)]*\\) \\{", code)) {
            if (PUBLIC.contains(name)) {
                fault(1, name + " is not public");
            }
        }
        for (String name : all("\n        (?:static )?(?:int|void|boolean|char|String|Cue|Reel|Sound|Channel) (\\w+)\\([^)]*\\) \\{", code)) {
            if (PUBLIC.contains(name)) {
                fault(1, name + " of a class inside bears the name of a public one");
            }
        }
        for (String line : all("\n    ((?!    )(?!public|private|}|/)\\S[^\n]*)", code)) {
            fault(1, "neither public nor private: " + line);
        }
    }

    /** Each line of the document's face stands in the source, a method with its body; the constructor has no type. */
    private static void faceOfDocument(String code) throws IOException {
        Matcher face = Pattern.compile("```java\n(public final class .*?)\n}\n```", Pattern.DOTALL).matcher(Files.readString(DOCUMENT));
        List<String> lines = face.find() ? face.group(1).lines().toList() : List.of();
        if (lines.size() != PUBLIC.size() + 4) {
            fault(1, "the document's face has " + lines.size() + " lines");
        }
        for (String line : lines) {
            if (!code.contains("\n" + line + "\n") && !code.contains("\n" + line.replaceFirst("\\);$", ") {") + "\n")) {
                fault(1, "does not stand as in the document: " + line.strip());
            }
        }
    }

    /** The members that the compiled class shows: those of the document's face, and no other. */
    private static void members() {
        Class<RadioCues> face = RadioCues.class;
        if (face.getModifiers() != (Modifier.PUBLIC | Modifier.FINAL) || face.getDeclaredConstructors().length != 1) {
            fault(1, "the class is public and final, with one constructor");
        }
        for (Method method : face.getDeclaredMethods()) {
            boolean open = !Modifier.isPrivate(method.getModifiers()) && !method.isSynthetic();
            if (open != PUBLIC.contains(method.getName()) || open && method.getModifiers() != Modifier.PUBLIC) {
                fault(1, "the method " + method);
            }
        }
        int constants = Modifier.PUBLIC | Modifier.STATIC | Modifier.FINAL;
        for (Field field : face.getDeclaredFields()) {
            boolean open = !Modifier.isPrivate(field.getModifiers()) && !field.isSynthetic();
            if (open != CONSTANTS.contains(field.getName()) || open && field.getModifiers() != constants) {
                fault(1, "the field " + field);
            }
        }
        for (Class<?> inside : face.getDeclaredClasses()) {
            if (!Modifier.isStatic(inside.getModifiers()) || Modifier.isPublic(inside.getModifiers())) {
                fault(2, "the class inside " + inside);
            }
            for (Method method : inside.getDeclaredMethods()) {
                if (PUBLIC.contains(method.getName())) {
                    fault(1, "bears the name of a public one: " + method);
                }
            }
        }
    }

    private static void words(String code) {
        for (String word : all("\\b(throw|throws|try|catch|synchronized|assert|import|package|protected|instanceof|var|interface|enum"
                + "|hashCode|toString|double|float|record|sealed|yield|native|volatile|transient|Exact)\\b", code)) {
            fault(6, word);
        }
        for (String sign : all("(->|::|@\\w+|\\?>|<\\w+>|\\[\\]\\[\\])", code)) {
            fault(2, sign);
        }
        for (String line : all("([^\n]*\"[^\n]*\\+[^\n]*)", code.replaceAll("\"[^\"\n]*\"", "\"\""))) {
            fault(10, line);
        }
        for (char c : code.toCharArray()) {
            if (c > 126 || c < 32 && c != '\n') {
                fault(4, "a sign " + (int) c);
            }
        }
        for (String line : all("\n\\s+((?:private |public )?static (?!final )[\\w\\[\\]]+ \\w+( =[^\n]*)?;)", code)) {
            fault(5, line);
        }
    }

    private static void library(String code) {
        for (String call : all("\\b([A-Z]\\w*\\.[a-z]\\w*)\\(", code)) {
            if (!LIBRARY.contains(call) && !call.startsWith("Pad.")) {
                fault(4, call);
            }
        }
    }

    private static void lengths(String code) {
        if (all("\\b(class) \\w+", code).size() > 12) {
            fault(11, "more than twelve classes");
        }
        String[] lines = code.split("\n");
        int from = 0;
        for (int i = 0; i < lines.length; i++) {
            if (lines[i].matches("\\s+[^=;]*\\w\\([^;=]*\\) \\{") && !lines[i].matches("\\s+(if|for|while|switch|\\}|else).*")) {
                from = i;
                if (lines[i].split(",").length > 7) {
                    fault(11, "parameters: " + lines[i]);
                }
            }
            if (lines[i].matches("    (    )?\\}") && i - from > 60) {
                fault(11, "a long method or class head at line " + from + ": " + lines[from]);
            }
        }
    }

    /** Calls go eight deep at the most, and no method calls itself: by names, so that alike names count as one. */
    private static void depths(String code) {
        List<String> names = new ArrayList<>();
        List<Set<String>> calls = new ArrayList<>();
        Matcher m = Pattern.compile("\n( {4}| {8})(?:public |private )?(?:static )?[\\w\\[\\]]+ (\\w+)\\([^)]*\\) \\{(.*?)\n\\1\\}",
            Pattern.DOTALL).matcher(code);
        while (m.find()) {
            names.add(m.group(2) + "@" + m.start());
            calls.add(new TreeSet<>(all("\\b((?:\\w+\\.)?[a-z]\\w*)\\(", m.group(3))));
        }
        for (int i = 0; i < names.size(); i++) {
            int depth = depth(i, names, calls, 1);
            if (depth > 8) {
                fault(11, "calls of " + names.get(i) + " go " + depth + " deep");
            }
        }
    }

    private static int depth(int at, List<String> names, List<Set<String>> calls, int so) {
        int deepest = so;
        for (String call : calls.get(at)) {
            boolean own = false;
            String name = call.substring(call.indexOf('.') + 1);
            for (int i = 0; i < names.size(); i++) {
                if (names.get(i).startsWith(name + "@") && so < 12 && !(name.equals("copyFrom") && i <= at)) {
                    own = true;
                    deepest = Math.max(deepest, depth(i, names, calls, so + 1));
                }
            }
            if (!own && LIBRARY.contains(call)) {
                deepest = Math.max(deepest, so + 1);
            }
        }
        return deepest;
    }
}

import java.io.IOException;
import java.lang.reflect.Constructor;
import java.lang.reflect.Field;
import java.lang.reflect.Method;
import java.lang.reflect.Modifier;
import java.nio.file.Files;
import java.nio.file.Path;
import java.util.ArrayList;
import java.util.Collections;
import java.util.List;
import java.util.Set;
import java.util.TreeSet;
import java.util.regex.Matcher;
import java.util.regex.Pattern;

/** The public face is the document's, and the source keeps to what can be looked up of LANGUAGE.md. */
public final class FaceTest {
    private static final String[] METHODS = {
        "int row(int,int,int)", "int set(int,int,int)", "int copy(int,int,int,int,int)", "int drop(int)",
        "int feed(int)", "int basin()", "int fault()", "int undo()", "int move(int,int)", "int laden(int)",
        "int moor(int,int)", "int silt()", "int boat(int)", "int cell(int,int)", "int hand(int,int)",
        "int way(int,int,int)", "int turned(int)", "int inches()", "int inTheWay(int)", "int dig(int)",
        "int years()", "int better()", "int plan(int,int,int,int)", "int seen(int,int,int,int)",
        "long gusts(int,int,int,int)", "int reach()", "int days(int,int,int)", "int image(int)",
        "int restore(int)", "int kind(int)", "int as(int,int)", "int ask(int,int)", "int trace(int)",
        "int count(int)", "int status()",
    };
    private static final String[] FORBIDDEN = {
        "throw", "try", "catch", "finally", "synchronized", "assert", "new Thread", "System\\.(?!arraycopy)",
        "->", "::", "Random", "Exact\\(", "import (?!java\\.util\\.(Arrays|ArrayList|List|Iterator);)",
        "\\.equals\\(", "hashCode", "toString", "var ", "package ", "while \\(true", "for \\(;;",
    };

    private static final Path SOURCE = Path.of("src/main/java/WideTurn.java"), DOCUMENT = Path.of("../shared/DOC.md");
    private static final int LONGEST = 60;

    private final Check check = new Check("face");
    private final String source;

    private FaceTest(String source) {
        this.source = source;
    }

    public static void main(String[] args) throws IOException {
        FaceTest test = new FaceTest(Files.readString(SOURCE));
        test.theFaceIsTheDocuments();
        test.whatIsInsideIsPrivate();
        test.theSourceKeepsToTheLanguage();
        test.methodsAreShort();
        if (Files.exists(DOCUMENT)) {
            test.theDocumentSaysTheSame(Files.readString(DOCUMENT));
        }
        test.check.end();
    }

    private void theFaceIsTheDocuments() {
        Class<?> face = WideTurn.class;
        check.that("final and public", face.getModifiers() == (Modifier.PUBLIC | Modifier.FINAL));
        List<String> found = new ArrayList<>();
        for (Method method : face.getDeclaredMethods()) {
            if (!Modifier.isPrivate(method.getModifiers()) && !method.isSynthetic()) {
                found.add(told(method));
                check.that(method + " is public alone", method.getModifiers() == Modifier.PUBLIC);
            } else {
                check.that(method + " has no name of the face", !facesHave(method.getName()));
            }
        }
        List<String> due = new ArrayList<>(List.of(METHODS));
        Collections.sort(found);
        Collections.sort(due);
        check.that("methods " + found, found.equals(due));
        Constructor<?>[] made = face.getDeclaredConstructors();
        check.that("one constructor", made.length == 1 && made[0].getParameterCount() == 0
                && made[0].getModifiers() == Modifier.PUBLIC);
    }

    private static String told(Method method) {
        StringBuilder text = new StringBuilder();
        for (Class<?> type : method.getParameterTypes()) {
            text.append(text.length() == 0 ? "" : ",").append(type.getSimpleName());
        }
        return method.getReturnType().getSimpleName() + " " + method.getName() + "(" + text + ")";
    }

    private void whatIsInsideIsPrivate() {
        Set<String> constants = new TreeSet<>();
        for (Field field : WideTurn.class.getDeclaredFields()) {
            int is = field.getModifiers();
            if (!Modifier.isPrivate(is)) {
                constants.add(field.getName());
            }
            check.that(field + " is final if static", !Modifier.isStatic(is) || Modifier.isFinal(is));
        }
        check.that("constants " + constants, constants.equals(Set.of("NONE", "BAD", "STATE", "FULL")));
        check.that("some twelve classes", WideTurn.class.getDeclaredClasses().length + 1 <= 12);
        for (Class<?> inner : WideTurn.class.getDeclaredClasses()) {
            int is = inner.getModifiers();
            check.that(inner + " is static, not public", Modifier.isStatic(is) && !Modifier.isPublic(is));
            int fields = 0;
            for (Field field : inner.getDeclaredFields()) {
                fields += Modifier.isStatic(field.getModifiers()) ? 0 : 1;
                check.that(field + " is final if static",
                        !Modifier.isStatic(field.getModifiers()) || Modifier.isFinal(field.getModifiers()));
            }
            check.that(inner + " has some twenty fields", fields <= 20);
            for (Method method : inner.getDeclaredMethods()) {
                check.that(method + " has no name of the face", !facesHave(method.getName()));
                check.that(method + " has at most seven parameters", method.getParameterCount() <= 7);
            }
        }
    }

    private static boolean facesHave(String name) {
        for (String method : METHODS) {
            if (method.contains(" " + name + "(")) {
                return true;
            }
        }
        return false;
    }

    private void theSourceKeepsToTheLanguage() {
        String code = source.replaceAll("(?s)/\\*.*?\\*/", "").replaceAll("//[^\n]*", "");
        for (String word : FORBIDDEN) {
            Matcher matcher = Pattern.compile("(?<![A-Za-z])" + word).matcher(code);
            check.that("no '" + word + "' in the source", !matcher.find());
        }
        for (int i = 0; i < source.length(); i++) {
            if (source.charAt(i) > 126) {
                check.that("sign " + (int) source.charAt(i) + " in the source", false);
            }
        }
    }

    private void methodsAreShort() {
        String[] lines = source.split("\n");
        int start = 0;
        for (int i = 0; i < lines.length; i++) {
            if (lines[i].matches(" {4,8}[A-Za-z].*\\) \\{") && !lines[i].matches(" +(if|for|while|switch) .*")) {
                start = i;
            }
            if (lines[i].matches(" {4,8}\\}")) {
                check.that("that '" + lines[start].trim() + "' is short", i - start <= LONGEST);
            }
        }
    }

    /** The face as it stands in the document, at its head and at each promise, and under which heading each call is. */
    private void theDocumentSaysTheSame(String document) {
        Matcher told = Pattern.compile("(?m)^    public (.+\\));$").matcher(document);
        int calls = 0;
        while (told.find()) {
            calls++;
            String call = told.group(1);
            check.that("that the face has '" + call + "'", source.contains("\n    public " + call + " {\n"));
            check.that("that it is promised, '" + call + "'", document.contains("\n`" + call + "`: "));
        }
        check.due("calls of the face, with its constructor", calls, METHODS.length + 1);
        Matcher constants = Pattern.compile("(?m)^    public static final .+;$").matcher(document);
        check.that("that the constants are as told", constants.find() && source.contains("\n" + constants.group() + "\n"));
        Matcher heading = Pattern.compile("(?m)^Ahead of the calls (.+) the interface says: (---- .+)\\.$").matcher(document);
        int headings = 0;
        while (heading.find()) {
            headings++;
            int start = source.indexOf("\n    // " + heading.group(2) + "\n");
            int end = source.indexOf("\n    // ---- ", start + 1);
            for (String call : heading.group(1).replaceAll("[` ]", "").split(",")) {
                int at = source.indexOf(" " + call + "(");
                check.that("that " + call + " stands under " + heading.group(2), start >= 0 && at > start && at < end);
            }
        }
        check.due("headings", headings, 5);
    }
}

import java.io.IOException;
import java.lang.reflect.Field;
import java.lang.reflect.Member;
import java.lang.reflect.Method;
import java.lang.reflect.Modifier;
import java.nio.file.Files;
import java.nio.file.Path;
import java.util.HashSet;
import java.util.List;
import java.util.Set;
import java.util.TreeSet;
import java.util.regex.MatchResult;
import java.util.regex.Pattern;

/** What can be looked at of ../shared/LANGUAGE.md, and the public face of the document. */
public final class LanguageTest {
    private static final Path PROGRAM = Path.of("src/main/java/DrainOffice.java");
    private static final Set<String> FACE = Set.of(
            "land(int,int)", "height(int,int)", "soil(int,int)", "soils(int,int,int,int,int)",
            "ditch(int,int)", "trench(int,int,int,int)", "pipe(int,int,int)", "join(int,int)",
            "open(int,int)", "part(int)", "block(int,boolean)", "of(int,int)", "step(int,int,int)",
            "rain(int,int)", "hours(int)", "at(int,int)", "all(int)", "many(int)", "dry(int)",
            "mark(int,boolean)", "tree()", "pair(int)", "sight(int,boolean)", "see()",
            "where(int,int)", "keep()", "back()");
    private static final Check check = new Check();

    public static void main(String[] args) throws IOException {
        faceIsTheDocuments();
        constantsAreTheDocuments();
        nothingElseIsSeen();
        classesStayInBounds();
        wordsOutsideTheRules();
        libraryIsTheRules();
        rowsAreMadeWithTheObject();
        indexesAndDivisorsAreLookedAt();
        methodsStayShort();
        check.finish();
    }

    private static void faceIsTheDocuments() {
        Set<String> found = new TreeSet<>();
        for (Method method : DrainOffice.class.getDeclaredMethods()) {
            if (Modifier.isPublic(method.getModifiers())) {
                found.add(faceOf(method));
                check.due(method.getName() + " answers int", method.getReturnType() == int.class ? 1 : 0, 1);
                check.due(method.getName() + " is static", Modifier.isStatic(method.getModifiers()) ? 1 : 0, 0);
            }
        }
        check.due("public methods " + found, found.equals(FACE) ? 1 : 0, 1);
        check.due("public final class", DrainOffice.class.getModifiers(), Modifier.PUBLIC | Modifier.FINAL);
        check.due("constructors", DrainOffice.class.getConstructors().length, 1);
        check.due("all constructors", DrainOffice.class.getDeclaredConstructors().length, 1);
    }

    private static String faceOf(Method method) {
        StringBuilder face = new StringBuilder(method.getName()).append('(');
        for (Class<?> type : method.getParameterTypes()) {
            face.append(face.charAt(face.length() - 1) == '(' ? "" : ",").append(type.getName());
        }
        return face.append(')').toString();
    }

    private static void constantsAreTheDocuments() {
        check.due("NUMBER", DrainOffice.NUMBER, -1);
        check.due("FULL", DrainOffice.FULL, -2);
        check.due("KIND", DrainOffice.KIND, -3);
        check.due("HIGH", DrainOffice.HIGH, -4);
        check.due("RING", DrainOffice.RING, -5);
        check.due("NONE", DrainOffice.NONE, -6);
        check.due("COVER", DrainOffice.COVER, -100);
        check.due("public fields", DrainOffice.class.getFields().length, 7);
    }

    private static void nothingElseIsSeen() {
        Set<String> names = new HashSet<>();
        for (String face : FACE) {
            names.add(face.substring(0, face.indexOf('(')));
        }
        for (Field field : DrainOffice.class.getDeclaredFields()) {
            check.due("field " + field.getName(), isPublicOrPrivate(field), 1);
        }
        for (Method method : DrainOffice.class.getDeclaredMethods()) {
            check.due("method " + method.getName(), isPublicOrPrivate(method), 1);
            if (!Modifier.isPublic(method.getModifiers())) {
                check.due("name " + method.getName(), names.contains(method.getName()) ? 1 : 0, 0);
            }
        }
    }

    private static int isPublicOrPrivate(Member member) {
        return (member.getModifiers() & (Modifier.PUBLIC | Modifier.PRIVATE)) != 0 ? 1 : 0;
    }

    private static void classesStayInBounds() {
        Class<?>[] inside = DrainOffice.class.getDeclaredClasses();
        check.due("classes beyond twelve", Math.max(0, inside.length + 1 - 12), 0);
        checkClass(DrainOffice.class);
        for (Class<?> one : inside) {
            check.due("static " + one.getName(), Modifier.isStatic(one.getModifiers()) ? 1 : 0, 1);
            checkClass(one);
        }
    }

    private static void checkClass(Class<?> one) {
        int fields = 0;
        for (Field field : one.getDeclaredFields()) {
            if (Modifier.isStatic(field.getModifiers())) {
                check.due("final " + field.getName(), Modifier.isFinal(field.getModifiers()) ? 1 : 0, 1);
            } else {
                fields++;
            }
        }
        check.due("fields beyond twenty in " + one.getName(), Math.max(0, fields - 20), 0);
        for (Method method : one.getDeclaredMethods()) {
            check.due("parameters of " + method.getName(), Math.max(0, method.getParameterCount() - 7), 0);
        }
    }

    private static void wordsOutsideTheRules() throws IOException {
        String code = withoutComments(Files.readString(PROGRAM));
        List<String> outside = List.of("\\b(throw|throws|try|catch|finally|synchronized|assert)\\b",
                "\\b(package|protected)\\b", "Exact\\(", "(?m)^(?!\\s*(case|default)\\b).*->", "::",
                "static \\{", "System\\.(?!arraycopy\\()",
                "import (?!java\\.util\\.(ArrayList|List|Arrays|Iterator);)");
        for (String pattern : outside) {
            check.due("found: " + pattern, Pattern.compile(pattern).matcher(code).find() ? 1 : 0, 0);
        }
    }

    /** Rule 4, as far as the class needs it. */
    private static void libraryIsTheRules() throws IOException {
        Set<String> listed = Set.of("Math.abs", "Math.max", "Math.min", "Long.bitCount", "Integer.MAX_VALUE");
        for (String use : found("\\b(?:[a-z]\\w*\\.)*[A-Z]\\w*\\.\\w+")) {
            check.due("library: " + use, listed.contains(use) ? 1 : 0, 1);
        }
    }

    /** Rule 12: what a run makes is counted, so no call makes anything: constructors and fields do. */
    private static void rowsAreMadeWithTheObject() throws IOException {
        for (String line : found("(?m)^.*\\bnew\\b.*$")) {
            boolean isField = line.matches("\\s*(private )?final [\\w\\[\\]]+ \\w+ = new .*;");
            check.due("made: " + line, isField || line.strip().equals("pipes[p] = new Pipe();") ? 1 : 0, 1);
        }
    }

    /**
     * Rule 7: an index is a name that a loop or a test bounds, or one of the forms below, of which
     * each stands behind its test; a number that the state holds goes through numberAt().
     */
    private static void indexesAndDivisorsAreLookedAt() throws IOException {
        Set<String> forms = Set.of("", "pipe.into", "what - 3", "place * MOST_PIPES + count",
                "MOST_PLACES * MOST_PIPES");
        for (String index : found("(?<=\\[)[^\\]]*(?=\\])")) {
            check.due("index: " + index, forms.contains(index) || index.matches("\\w+") ? 1 : 0, 1);
        }
        for (String divisor : found("[/%]=? *.*")) {
            boolean isTested = divisor.equals("/ columns : 0;");
            check.due("divisor: " + divisor, isTested || divisor.startsWith("/ 100)") ? 1 : 0, 1);
        }
    }

    private static List<String> found(String pattern) throws IOException {
        String code = withoutComments(Files.readString(PROGRAM));
        return Pattern.compile(pattern).matcher(code).results().map(MatchResult::group).toList();
    }

    private static String withoutComments(String code) {
        return code.replaceAll("(?s)/\\*.*?\\*/", "").replaceAll("//[^\n]*", "");
    }

    /** A method opens with a line that ends in ") {" at the depth of members, and ends in "}" there. */
    private static void methodsStayShort() throws IOException {
        List<String> lines = Files.readAllLines(PROGRAM);
        for (String indent : List.of("    ", "        ")) {
            int start = -1;
            for (int i = 0; i < lines.size(); i++) {
                String line = lines.get(i);
                if (line.matches(indent + "[a-zA-Z].*") && line.contains("(") && !line.endsWith(";")) {
                    start = i;
                } else if (line.equals(indent + "}") && start >= 0) {
                    check.due("lines beyond sixty: " + lines.get(start), Math.max(0, i - start + 1 - 60), 0);
                    start = -1;
                }
            }
        }
    }
}

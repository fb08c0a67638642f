import java.io.IOException;
import java.lang.reflect.Field;
import java.lang.reflect.Method;
import java.lang.reflect.Modifier;
import java.nio.file.Files;
import java.nio.file.Path;
import java.util.TreeSet;
import java.util.regex.Matcher;
import java.util.regex.Pattern;

/** The form of the class: those rules of ../shared/LANGUAGE.md that a program can see easily. */
public final class FormTest extends OverlayTest {
    private static final int MOST_PARAMETERS = 7;
    private static final int MOST_CLASSES = 12;
    private static final int MOST_FIELDS = 20;
    private static final int MOST_LINES = 60;
    private static final Pattern TEXTS_AND_COMMENTS = Pattern.compile("\"[^\"\n]*\"|//[^\n]*|/\\*.*?\\*/",
            Pattern.DOTALL);
    private static final Pattern METHOD = Pattern.compile("\n( {4}| {8})(?=[a-zA-Z])[^;={}]*\\([^;{}]*\\{\n.*?\n\\1\\}",
            Pattern.DOTALL);
    private static final String[] FORBIDDEN = {"->", "::", "\\bfinally\\b", "\\bsynchronized\\b", "\\bassert\\b",
        "\\w+Exact\\b", "\\bgetMessage\\b", "\\bhashCode\\b", "\\btoString\\b", "^package\\b", "\\bstatic \\{",
        "\\bSystem\\.(?!arraycopy)", "\\bRandom\\b", "\\bThread\\b", "\\bNaN\\b", "\\bextends \\w*Exception\\b",
        "\\bMath\\.(?!min|max|abs|floorDiv|floorMod)", "\\bInteger\\.(?!bitCount|compare|min|max)"};

    private static void onlyTheFaceCanBeSeen() {
        TreeSet<String> face = new TreeSet<>();
        TreeSet<String> hidden = new TreeSet<>();
        for (Method method : PlaneOverlay.class.getDeclaredMethods()) {
            boolean isPublic = Modifier.isPublic(method.getModifiers());
            due(method + " is public or private", 1,
                    () -> isPublic || Modifier.isPrivate(method.getModifiers()) ? 1 : 0);
            (isPublic ? face : hidden).add(method.getName());
        }
        due("public methods", 12, face::size);
        hidden.retainAll(face);
        dueSame("private methods that bear the name of a public one", "[]", hidden.toString());
        for (Field field : PlaneOverlay.class.getDeclaredFields()) {
            due(field + " is private", 1, () -> Modifier.isPrivate(field.getModifiers()) ? 1 : 0);
        }
        due("the class is public", 1, () -> Modifier.isPublic(PlaneOverlay.class.getModifiers()) ? 1 : 0);
    }

    private static void classesInsideAreStaticAndNotPublic() {
        Class<?>[] inside = PlaneOverlay.class.getDeclaredClasses();
        due("not too many classes", 1, () -> inside.length + 1 <= MOST_CLASSES ? 1 : 0);
        for (Class<?> each : inside) {
            int is = each.getModifiers();
            due(each + " is static", 1, () -> Modifier.isStatic(is) ? 1 : 0);
            due(each + " is not public", 1, () -> Modifier.isPublic(is) || Modifier.isProtected(is) ? 0 : 1);
            dueSmall(each);
        }
        dueSmall(PlaneOverlay.class);
    }

    private static void dueSmall(Class<?> each) {
        int fields = 0;
        for (Field field : each.getDeclaredFields()) {
            boolean isStatic = Modifier.isStatic(field.getModifiers());
            fields += isStatic ? 0 : 1;
            due(field + " is final if it is static", 1,
                    () -> !isStatic || Modifier.isFinal(field.getModifiers()) ? 1 : 0);
        }
        int found = fields;
        due(each + " has few fields", 1, () -> found <= MOST_FIELDS ? 1 : 0);
        for (Method method : each.getDeclaredMethods()) {
            due(method + " takes few parameters", 1, () -> method.getParameterCount() <= MOST_PARAMETERS ? 1 : 0);
        }
    }

    private static void nothingForbiddenIsUsed(String source) {
        String code = TEXTS_AND_COMMENTS.matcher(source).replaceAll("");
        for (String word : FORBIDDEN) {
            due("uses of " + word, 0, () -> count(Pattern.compile(word, Pattern.MULTILINE), code));
        }
        Matcher imports = Pattern.compile("^import .*$", Pattern.MULTILINE).matcher(code);
        while (imports.find()) {
            dueSame("import", "import java.util.NoSuchElementException;", imports.group());
        }
    }

    private static void methodsAreShort(String source) {
        Matcher methods = METHOD.matcher(source);
        int found = 0;
        while (methods.find()) {
            found++;
            String method = methods.group();
            long lines = method.strip().lines().count();
            due(method.strip().lines().findFirst().orElse("") + " is short", 1, () -> lines <= MOST_LINES ? 1 : 0);
        }
        int seen = found;
        due("methods are seen", 1, () -> seen > 12 ? 1 : 0);
    }

    private static void textsHoldPlainCharacters(String source) {
        due("characters above 255", 0, () -> source.chars().filter(c -> c > 255).count());
    }

    private static int count(Pattern pattern, String text) {
        int found = 0;
        Matcher matcher = pattern.matcher(text);
        while (matcher.find()) {
            found++;
        }
        return found;
    }

    public static void main(String[] args) throws IOException {
        String source = Files.readString(Path.of("src/main/java/PlaneOverlay.java"));
        test("LANGUAGE.md, rule 1.", FormTest::onlyTheFaceCanBeSeen);
        test("LANGUAGE.md, rules 2, 5 and 11: classes.", FormTest::classesInsideAreStaticAndNotPublic);
        test("LANGUAGE.md, rules 2 to 6 and 13: words.", () -> nothingForbiddenIsUsed(source));
        test("LANGUAGE.md, rule 11: short methods.", () -> methodsAreShort(source));
        test("LANGUAGE.md, rule 3: characters.", () -> textsHoldPlainCharacters(source));
        end();
    }
}

import java.io.IOException;
import java.lang.reflect.Constructor;
import java.lang.reflect.Field;
import java.lang.reflect.Method;
import java.lang.reflect.Modifier;
import java.nio.file.Files;
import java.nio.file.Path;
import java.util.ArrayList;
import java.util.List;
import java.util.TreeSet;
import java.util.regex.Matcher;
import java.util.regex.Pattern;

/** The rules of ../shared/LANGUAGE.md that can be told by looks, and the public face of ../shared/DOC.md. */
public final class LanguageTest {
    private static final Due DUE = new Due();
    private static final Path CODE = Path.of("src/main/java/UpAndDown.java");
    private static final Path DOCUMENT = Path.of("../shared/DOC.md");

    public static void main(String[] args) throws IOException {
        String code = Files.readString(CODE);
        signs(code);
        words(code.replaceAll("(?s)/\\*.*?\\*/", "").replaceAll("//[^\n]*", "").replaceAll("\"[^\"]*\"", "\"\""));
        face();
        inside();
        DUE.end("LanguageTest");
    }

    private static void signs(String code) {
        DUE.is("signs beyond 127", code.chars().filter(sign -> sign > 127).count(), 0);
    }

    private static void words(String code) {
        String[] ruledOut = {"\\bthrow", "\\btry\\b", "\\bcatch\\b", "\\bsynchronized\\b", "\\bassert\\b", "->", "::",
                "\\bimport\\b", "\\bpackage\\b", "\\bvar\\b", "\\binstanceof\\b", "\\bSystem\\.(?!arraycopy)", "Exact\\b",
                "\\bObject\\b", "\\bThread\\b", "\\bprotected\\b", "\\bvolatile\\b", "static\\s*\\{", "\\bdouble\\b",
                "\\bhashCode\\b", "\\btoString\\b", "\"\\s*\\+", "\\+\\s*\""};
        for (String pattern : ruledOut) {
            Matcher matcher = Pattern.compile(pattern).matcher(code);
            DUE.is("ruled out: " + pattern, matcher.find() ? 1 : 0, 0);
        }
    }

    private static void face() throws IOException {
        List<String> due = new ArrayList<>();
        Matcher matcher = Pattern.compile("    public (?:int|static final int) (\\w+)").matcher(Files.readString(DOCUMENT));
        while (matcher.find()) {
            due.add(matcher.group(1));
        }
        TreeSet<String> open = new TreeSet<>();
        for (Method method : UpAndDown.class.getDeclaredMethods()) {
            if (!Modifier.isPrivate(method.getModifiers())) {
                open.add(method.getName());
            }
        }
        for (Field field : UpAndDown.class.getDeclaredFields()) {
            if (!Modifier.isPrivate(field.getModifiers())) {
                open.add(field.getName());
            }
        }
        DUE.is("the face " + open, open.equals(new TreeSet<>(due)) ? 1 : 0, 1);
        DUE.is("the face's size", due.size(), 47);
        Constructor<?>[] constructors = UpAndDown.class.getDeclaredConstructors();
        DUE.is("constructors", constructors.length, 1);
        DUE.is("final", Modifier.isFinal(UpAndDown.class.getModifiers()) ? 1 : 0, 1);
    }

    private static void inside() {
        List<Class<?>> all = new ArrayList<>(List.of(UpAndDown.class.getDeclaredClasses()));
        all.add(UpAndDown.class);
        DUE.is("at most twelve classes", all.size() <= 12 ? 1 : 0, 1);
        TreeSet<String> face = new TreeSet<>();
        for (Method method : UpAndDown.class.getMethods()) {
            face.add(method.getName());
        }
        for (Class<?> one : all) {
            DUE.is("static: " + one, one == UpAndDown.class || Modifier.isStatic(one.getModifiers()) ? 1 : 0, 1);
            int fields = 0;
            for (Field field : one.getDeclaredFields()) {
                boolean isStatic = Modifier.isStatic(field.getModifiers());
                fields += isStatic ? 0 : 1;
                DUE.is("final: " + field, isStatic && !Modifier.isFinal(field.getModifiers()) ? 0 : 1, 1);
            }
            DUE.is("at most twenty fields: " + one, fields <= 20 ? 1 : 0, 1);
            for (Method method : one.getDeclaredMethods()) {
                DUE.is("parameters: " + method, method.getParameterCount() <= 7 ? 1 : 0, 1);
                boolean hidden = Modifier.isPrivate(method.getModifiers()) && face.contains(method.getName());
                DUE.is("a private one's name: " + method, hidden ? 1 : 0, 0);
            }
        }
    }
}

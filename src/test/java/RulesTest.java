import java.io.IOException;
import java.lang.reflect.Constructor;
import java.lang.reflect.Field;
import java.lang.reflect.Method;
import java.lang.reflect.Modifier;
import java.nio.file.Files;
import java.nio.file.Path;
import java.util.ArrayList;
import java.util.Arrays;
import java.util.List;
import java.util.Set;
import java.util.TreeSet;
import java.util.regex.Matcher;
import java.util.regex.Pattern;

/** The face of the document and its names (rule 1 of LANGUAGE.md), and what the one file may bring in. */
public final class RulesTest {
    private static final String[] FACE = {
        "int crash()", "int disk(int,int)", "int drop()", "boolean fail(int,boolean)", "int fill(int,int,int,int)",
        "int hand(int)", "int listed(boolean,int)", "int next(int,int,int)", "int page(int,int,int)",
        "boolean pin(int,int,boolean)", "int punch(int,int,int)", "int read(int,int,int)", "int run(int,int)",
        "int size(int)", "int sync(int)", "int syncAll()", "int tick(int)", "int told(int)", "int tree(int,int)",
        "int truncate(int,int)", "int write(int,int,long,int)"};
    private static final String[] CONSTANTS = {"BAD", "DEFECT", "NONE", "NO_FRAME", "NO_ROOM"};
    private static int wrong = 0;

    public static void main(String[] args) throws IOException {
        face();
        names();
        source(Files.readString(Path.of("src/main/java/PageHold.java")));
        System.out.println(wrong == 0 ? "the rules are kept" : wrong + " rules are broken");
        if (wrong != 0) System.exit(1);
    }

    private static void due(String what, boolean holds) {
        if (!holds) {
            wrong++;
            System.out.println("broken: " + what);
        }
    }

    private static String signature(Method m) {
        List<String> types = new ArrayList<>();
        for (Class<?> c : m.getParameterTypes()) types.add(c.getSimpleName());
        return m.getReturnType().getSimpleName() + " " + m.getName() + "(" + String.join(",", types) + ")";
    }

    private static void face() {
        Class<?> c = PageHold.class;
        due("public final", Modifier.isPublic(c.getModifiers()) && Modifier.isFinal(c.getModifiers()));
        Set<String> open = new TreeSet<>();
        for (Method m : c.getDeclaredMethods()) {
            if (m.isSynthetic() || Modifier.isPrivate(m.getModifiers())) continue;
            due("public: " + m, Modifier.isPublic(m.getModifiers()) && !Modifier.isStatic(m.getModifiers()));
            open.add(signature(m));
        }
        due("methods of the face " + open, open.equals(new TreeSet<>(Arrays.asList(FACE))));
        Set<String> constants = new TreeSet<>();
        for (Field f : c.getDeclaredFields()) {
            if (!Modifier.isPrivate(f.getModifiers())) constants.add(f.getName());
        }
        due("constants of the face " + constants, constants.equals(new TreeSet<>(Arrays.asList(CONSTANTS))));
        Constructor<?>[] made = c.getDeclaredConstructors();
        due("one constructor", made.length == 1 && Modifier.isPublic(made[0].getModifiers())
            && Arrays.equals(made[0].getParameterTypes(), new Class<?>[] {int.class, int.class}));
    }

    /** Rule 1: no private method bears a name of the face. */
    private static void names() {
        Set<String> names = new TreeSet<>();
        for (String s : FACE) names.add(s.replaceAll("^\\w+ |\\(.*", ""));
        List<Class<?>> all = new ArrayList<>(Arrays.asList(PageHold.class.getDeclaredClasses()));
        all.add(PageHold.class);
        for (Class<?> c : all) {
            for (Method m : c.getDeclaredMethods()) {
                boolean ofFace = c == PageHold.class && Modifier.isPublic(m.getModifiers());
                due("a name of the face: " + m, ofFace || !names.contains(m.getName()));
            }
        }
    }

    private static void source(String text) {
        String code = text.replaceAll("(?s)/\\*.*?\\*/", "").replaceAll("//[^\n]*", "");
        due("without a package", !Pattern.compile("\\bpackage\\b").matcher(code).find());
        due("without annotations", !code.contains("@"));
        Matcher imports = Pattern.compile("import ([^;]*);").matcher(code);
        while (imports.find()) due("import " + imports.group(1), imports.group(1).equals("java.util.Arrays"));
        due("ASCII", text.chars().allMatch(c -> c < 128));
    }
}

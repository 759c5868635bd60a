import java.io.IOException;
import java.lang.reflect.Constructor;
import java.lang.reflect.Field;
import java.lang.reflect.Method;
import java.lang.reflect.Modifier;
import java.nio.charset.StandardCharsets;
import java.nio.file.Files;
import java.nio.file.Path;
import java.util.ArrayList;
import java.util.Arrays;
import java.util.List;
import java.util.Set;
import java.util.TreeSet;
import java.util.regex.Matcher;
import java.util.regex.Pattern;

/** The public face of the document, and those rules of LANGUAGE.md that names and words can show. */
public final class Face {
    private static final String SOURCE = "src/main/java/FootBridges.java";
    private static final String[] METHODS = {
        "span(int)", "weight(int,int)", "spring(int,int)", "below(int)", "tone(int)", "isTone(int)",
        "sort(int,int,int,int)", "crowd(int,int)", "rule(int,int)", "net(int)", "beats(int,int)",
        "settles(int)", "ring(int,int)", "tooMany(int)", "inStep(int)", "damper(int,int,int)",
        "build(int,boolean)", "cheapest()", "bought(int)", "way(int,int)", "arrive(int,int)",
        "day(int,int)", "on(int,int)", "bestMark(int)", "test(int,int,int,int,int)", "forget(int)",
        "laws()", "law(int)", "among(boolean,boolean)", "breaks(int)", "sure(int)", "safe()",
        "next(int)", "count(int)"
    };
    private static final String[] CONSTANTS = {"UNKNOWN=-1", "BAD=-2", "STATE=-3", "FULL=-4", "NONE=-9"};
    private static int wrong = 0;

    public static void main(String[] args) throws Exception {
        methods();
        constants();
        others();
        classes();
        words();
        System.out.println(wrong == 0 ? "the face is as due" : wrong + " faults in the face");
        if (wrong != 0) {
            System.exit(1);
        }
    }

    private static void check(boolean holds, String fault) {
        if (!holds) {
            wrong++;
            System.out.println(fault);
        }
    }

    private static void methods() {
        check(Modifier.isPublic(FootBridges.class.getModifiers()), "the class is not public");
        check(Modifier.isFinal(FootBridges.class.getModifiers()), "the class is not final");
        Set<String> found = new TreeSet<>();
        for (Method method : FootBridges.class.getDeclaredMethods()) {
            if (Modifier.isPrivate(method.getModifiers())) {
                continue;
            }
            List<String> types = new ArrayList<>();
            for (Class<?> type : method.getParameterTypes()) {
                types.add(type.getName());
            }
            found.add(method.getName() + "(" + String.join(",", types) + ")");
            int modifiers = method.getModifiers();
            check(Modifier.isPublic(modifiers) && !Modifier.isStatic(modifiers), "not public: " + method);
            check(method.getReturnType() == int.class, "does not answer an int: " + method);
        }
        check(found.equals(new TreeSet<>(Arrays.asList(METHODS))), "other methods than those due: " + found);
    }

    private static void constants() throws IllegalAccessException {
        Set<String> found = new TreeSet<>();
        for (Field field : FootBridges.class.getDeclaredFields()) {
            int modifiers = field.getModifiers();
            if (Modifier.isPrivate(modifiers)) {
                check(!Modifier.isStatic(modifiers) || Modifier.isFinal(modifiers), "static, not final: " + field);
                continue;
            }
            check(modifiers == (Modifier.PUBLIC | Modifier.STATIC | Modifier.FINAL), "no constant: " + field);
            found.add(field.getName() + "=" + field.getInt(null));
        }
        check(found.equals(new TreeSet<>(Arrays.asList(CONSTANTS))), "other constants than those due: " + found);
    }

    private static void others() {
        Constructor<?>[] constructors = FootBridges.class.getDeclaredConstructors();
        check(constructors.length == 1 && constructors[0].getParameterCount() == 0
                && Modifier.isPublic(constructors[0].getModifiers()), "other constructors than the one due");
    }

    private static void classes() {
        Set<String> faceNames = new TreeSet<>();
        for (String method : METHODS) {
            faceNames.add(method.substring(0, method.indexOf('(')));
        }
        List<Class<?>> all = new ArrayList<>(Arrays.asList(FootBridges.class.getDeclaredClasses()));
        check(all.size() < 12, "more than some twelve classes");
        for (Class<?> inside : all) {
            check(Modifier.isStatic(inside.getModifiers()), "not static: " + inside);
            check(!Modifier.isPublic(inside.getModifiers()), "public: " + inside);
        }
        all.add(FootBridges.class);
        for (Class<?> each : all) {
            int fields = 0;
            for (Field field : each.getDeclaredFields()) {
                boolean isStatic = Modifier.isStatic(field.getModifiers());
                fields += isStatic ? 0 : 1;
                check(!isStatic || Modifier.isFinal(field.getModifiers()), "static, not final: " + field);
            }
            check(fields <= 20, "more than twenty fields: " + each);
            for (Method method : each.getDeclaredMethods()) {
                boolean isOfFace = each == FootBridges.class && Modifier.isPublic(method.getModifiers());
                check(isOfFace || !faceNames.contains(method.getName()), "bears a name of the face: " + method);
                check(method.getParameterCount() <= 7, "more than seven parameters: " + method);
            }
        }
    }

    private static void words() throws IOException {
        String text = Files.readString(Path.of(SOURCE), StandardCharsets.UTF_8);
        String code = text.replaceAll("(?s)/\\*.*?\\*/", " ").replaceAll("//[^\n]*", " ");
        Matcher word = Pattern.compile("\\b(throw|throws|try|catch|finally|synchronized|assert|package|native"
                + "|System|Exact|Object|Random|Thread|Exception)\\b|->|::|\\w+Exact\\b").matcher(code);
        while (word.find()) {
            check(false, "a word that is ruled out: " + word.group());
        }
        Matcher imported = Pattern.compile("\\bimport\\s+([\\w.*]+)").matcher(code);
        while (imported.find()) {
            check(imported.group(1).equals("java.util.Arrays"), "an import: " + imported.group(1));
        }
        for (int i = 0; i < text.length(); i++) {
            check(text.charAt(i) < 128, "a sign above 127 at " + i);
        }
    }
}

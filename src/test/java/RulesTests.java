import java.lang.reflect.Constructor;
import java.lang.reflect.Field;
import java.lang.reflect.Method;
import java.lang.reflect.Modifier;
import java.nio.file.Files;
import java.nio.file.Path;
import java.util.ArrayList;
import java.util.Arrays;
import java.util.List;
import java.util.TreeSet;
import java.util.regex.Matcher;
import java.util.regex.Pattern;

/** The face of the document, and the rules of LANGUAGE.md that can be seen by a machine. Runs from the project's folder. */
public final class RulesTests {
    private static final String[] FACE = {
        "int letter(int)", "int blank()", "int fault()", "int gallery()", "int place(int,int)", "int prop(int)",
        "int tenant(int,int)", "int about(int,int)", "int as(int,int)", "int move(int,int)", "int day()",
        "int holds()", "int where(int)", "int props(int,int)", "int out()", "int knock(int,int,boolean)",
        "int forget()", "int years(int,int,int)", "int image()", "int restore()", "int count(int)", "long digest()",
    };
    private static final String[] CONSTANTS = {"FULL", "NONE", "OUTSIDE", "STATE", "UNKNOWN"};
    private static int wrong = 0;

    public static void main(String[] args) throws Exception {
        face();
        nestedClasses();
        String source = withoutCommentsAndTexts(Files.readString(Path.of("src/main/java/LentGallery.java")));
        words(source);
        rowsAreMadeInConstructors(source);
        System.out.println(wrong == 0 ? "the rules are kept" : wrong + " rules are broken");
        if (wrong != 0) {
            System.exit(1);
        }
    }

    private static void check(boolean holds, String rule) {
        if (!holds) {
            wrong++;
            System.out.println("broken: " + rule);
        }
    }

    private static void face() {
        check(Modifier.isFinal(LentGallery.class.getModifiers()), "the class is final");
        List<String> seen = new ArrayList<>();
        TreeSet<String> publicNames = new TreeSet<>();
        TreeSet<String> privateNames = new TreeSet<>();
        for (Method m : LentGallery.class.getDeclaredMethods()) {
            if (Modifier.isPublic(m.getModifiers())) {
                check(!Modifier.isStatic(m.getModifiers()), m.getName() + " is not static");
                List<String> types = new ArrayList<>();
                for (Class<?> type : m.getParameterTypes()) {
                    types.add(type.getName());
                }
                seen.add(m.getReturnType().getName() + " " + m.getName() + "(" + String.join(",", types) + ")");
                publicNames.add(m.getName());
            } else {
                check(Modifier.isPrivate(m.getModifiers()), m.getName() + " is private");
                privateNames.add(m.getName());
            }
        }
        check(new TreeSet<>(seen).equals(new TreeSet<>(Arrays.asList(FACE))), "the face: " + seen);
        privateNames.retainAll(publicNames);
        check(privateNames.isEmpty(), "no private method bears the name of a public one: " + privateNames);
        Constructor<?>[] constructors = LentGallery.class.getDeclaredConstructors();
        check(constructors.length == 1 && constructors[0].getParameterCount() == 0
            && Modifier.isPublic(constructors[0].getModifiers()), "one public constructor without parameters");
        TreeSet<String> constants = new TreeSet<>();
        for (Field f : LentGallery.class.getDeclaredFields()) {
            if (Modifier.isPublic(f.getModifiers())) {
                constants.add(f.getName());
            } else {
                check(Modifier.isPrivate(f.getModifiers()), f.getName() + " is private");
            }
            check(!Modifier.isStatic(f.getModifiers()) || Modifier.isFinal(f.getModifiers()), f.getName() + " is final");
        }
        check(constants.equals(new TreeSet<>(Arrays.asList(CONSTANTS))), "the constants: " + constants);
    }

    private static void nestedClasses() {
        Class<?>[] nested = LentGallery.class.getDeclaredClasses();
        check(nested.length <= 11, "at most some twelve classes");
        for (Class<?> c : nested) {
            check(Modifier.isStatic(c.getModifiers()), c.getName() + " is static");
            check(!Modifier.isPublic(c.getModifiers()) && !Modifier.isProtected(c.getModifiers()), c.getName() + " is hidden");
            int fields = 0;
            for (Field f : c.getDeclaredFields()) {
                fields += Modifier.isStatic(f.getModifiers()) ? 0 : 1;
            }
            check(fields <= 20, c.getName() + " has few fields");
            for (Method m : c.getDeclaredMethods()) {
                check(m.getParameterCount() <= 7, m.getName() + " takes at most seven parameters");
            }
        }
    }

    private static String withoutCommentsAndTexts(String source) {
        return source.replaceAll("(?s)/\\*.*?\\*/", "").replaceAll("//[^\n]*", "")
            .replaceAll("\"[^\"\n]*\"", "\"\"").replaceAll("'[^'\n]*'", "' '");
    }

    private static void words(String source) {
        String[] barred = {"throw", "throws", "try", "catch", "synchronized", "assert", "package", "Random", "Thread", "Object",
            "equals", "hashCode", "toString", "currentTimeMillis", "nanoTime", "->", "::", "Exact"};
        for (String word : barred) {
            String pattern = word.matches("\\w+") && !word.equals("Exact") ? "\\b" + word + "\\b" : word;
            check(!Pattern.compile(pattern).matcher(source).find(), "no " + word);
        }
        Matcher imports = Pattern.compile("import ([^;]*);").matcher(source);
        while (imports.find()) {
            check(imports.group(1).equals("java.util.Arrays"), "no import of " + imports.group(1));
        }
    }

    /** A run's calls live in one room: no call makes an object, so "new" stands in fields and in the constructor alone. */
    private static void rowsAreMadeInConstructors(String source) {
        for (String line : source.split("\n")) {
            if (line.matches(".*\\bnew\\b.*")) {
                check(line.matches("\\s*(private )?final \\w+(\\[\\])? \\w+ = new .*;") || line.matches("        \\w+ = new \\w+\\(\\);"),
                    "made in a constructor: " + line.trim());
            }
        }
    }
}

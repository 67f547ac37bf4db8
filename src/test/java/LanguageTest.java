import java.lang.reflect.Field;
import java.lang.reflect.Method;
import java.lang.reflect.Modifier;
import java.nio.file.Files;
import java.nio.file.Path;
import java.util.List;
import java.util.Set;
import java.util.TreeSet;
import java.util.regex.Matcher;
import java.util.regex.Pattern;

/** The face of the document, and those rules of LANGUAGE.md that can be seen from outside. */
public final class LanguageTest {
    private static final Check check = new Check("LanguageTest");
    private static final String SOURCE = "src/main/java/StairRegiment.java";

    public static void main(String[] args) throws Exception {
        face();
        nested();
        words();
        methodLengths();
        check.finish();
    }

    /** The face as the document's own code block tells it. */
    private static void face() throws Exception {
        Set<String> due = new TreeSet<>();
        Matcher told = Pattern.compile("public (\\w+) (\\w+)\\(([^)]*)\\);").matcher(Files.readString(Path.of("../shared/DOC.md")));
        while (told.find()) {
            StringBuilder types = new StringBuilder();
            for (String parameter : told.group(3).split(",")) {
                types.append(parameter.trim().split(" ")[0]).append(',');
            }
            due.add(told.group(1) + " " + told.group(2) + " " + types);
        }
        check.due("methods of the document", due.size(), 42);
        Set<String> got = new TreeSet<>();
        for (Method m : StairRegiment.class.getDeclaredMethods()) {
            boolean isPrivate = Modifier.isPrivate(m.getModifiers());
            check.due(m.getName() + " is public or private", isPrivate || Modifier.isPublic(m.getModifiers()), true);
            if (!isPrivate) {
                StringBuilder types = new StringBuilder();
                for (Class<?> type : m.getParameterTypes()) {
                    types.append(type.getName()).append(',');
                }
                got.add(m.getReturnType().getName() + " " + m.getName() + " " + (types.length() == 0 ? "," : types));
            }
        }
        check.due("the face is " + got + ", due is " + due, got.equals(due), true);
        check.due("public and final", StairRegiment.class.getModifiers(), Modifier.PUBLIC | Modifier.FINAL);
        for (Field f : StairRegiment.class.getDeclaredFields()) {
            check.due(f.getName() + " is private", f.getName().equals("NONE") != Modifier.isPrivate(f.getModifiers()), true);
        }
    }

    private static void nested() {
        Class<?>[] classes = StairRegiment.class.getDeclaredClasses();
        check.due("at most twelve classes", classes.length + 1 <= 12, true);
        Set<String> names = new TreeSet<>();
        for (Method m : StairRegiment.class.getDeclaredMethods()) {
            if (Modifier.isPublic(m.getModifiers())) {
                names.add(m.getName());
            }
        }
        for (Method m : StairRegiment.class.getDeclaredMethods()) {
            check.due("private " + m.getName(), Modifier.isPrivate(m.getModifiers()) && names.contains(m.getName()), false);
            check.due("parameters of " + m.getName(), m.getParameterCount() <= 7, true);
        }
        for (Class<?> c : classes) {
            check.due(c + " is static", Modifier.isStatic(c.getModifiers()), true);
            int fields = 0;
            for (Field f : c.getDeclaredFields()) {
                fields += Modifier.isStatic(f.getModifiers()) ? 0 : 1;
                check.due(c + " " + f.getName(), Modifier.isStatic(f.getModifiers()) && !Modifier.isFinal(f.getModifiers()), false);
            }
            check.due("fields of " + c, fields <= 20, true);
            for (Method m : c.getDeclaredMethods()) {
                check.due("name of " + m, names.contains(m.getName()), false);
                check.due("parameters of " + m, m.getParameterCount() <= 7, true);
            }
        }
    }

    private static void words() throws Exception {
        String code = Files.readString(Path.of(SOURCE)).replaceAll("(?s)/\\*.*?\\*/", "").replaceAll("//[^\n]*", "");
        String[] forbidden = {"\\bthrow\\b", "\\btry\\b", "\\bcatch\\b", "\\bsynchronized\\b", "\\bassert\\b", "->", "::", "\\bstatic \\{", "Exact\\b",
            "\\bpackage\\b", "\\bequals\\b", "\\bhashCode\\b", "\\btoString\\b", "\"\\s*\\+", "\\+\\s*\"", "\\bvar\\b", "\\bObject\\b", "\\bSystem\\.(?!arraycopy)"};
        for (String word : forbidden) {
            check.due("no " + word, Pattern.compile(word).matcher(code).find(), false);
        }
        Matcher imports = Pattern.compile("import ([^;]*);").matcher(code);
        while (imports.find()) {
            check.due("import " + imports.group(1), Set.of("java.util.Arrays", "java.util.ArrayList", "java.util.List").contains(imports.group(1)), true);
        }
    }

    private static void methodLengths() throws Exception {
        List<String> lines = Files.readAllLines(Path.of(SOURCE));
        Pattern head = Pattern.compile("^( {4}| {8})\\S.*\\) \\{$");
        for (int i = 0; i < lines.size(); i++) {
            Matcher m = head.matcher(lines.get(i));
            if (m.matches()) {
                int end = i;
                while (!lines.get(end).equals(m.group(1) + "}")) {
                    end++;
                }
                check.due("length of <" + lines.get(i).trim() + ">", end - i + 1 <= 60, true);
            }
        }
    }
}

import java.io.IOException;
import java.lang.reflect.Field;
import java.lang.reflect.Method;
import java.lang.reflect.Modifier;
import java.nio.file.Files;
import java.nio.file.Path;
import java.util.ArrayList;
import java.util.List;
import java.util.Set;
import java.util.TreeSet;
import java.util.regex.Pattern;

/** The face of the document, and those rules of LANGUAGE.md that can be read off the class and its text. */
public final class LanguageTest {
    private static final String FACE = "feed5 end1 line0 rule0 coach2 way2 stop2 rider2 inside2 outside2 pass1 shut2 undo0"
            + " run2 soonest1 row3 latest1 lost0 voice1 voices0 put1 family2 meet3 seen3 gotIn1 sit1 seed1 journeys2"
            + " count1 image1 back1";
    private static final String[] NOT_ALLOWED = {"\\bthrow\\b", "\\btry\\b", "\\bcatch\\b", "\\bassert\\b", "->", "::",
        "\\bsynchronized\\b", "\\bvar\\b", "String\\[\\]", "\\.equals\\(", "hashCode", "Exact\\(", "\\brecord\\b",
        "\" \\+", "\\+ \"", "\\bimport (?!java\\.util\\.Arrays;)", "\\bpackage\\b", "System\\.(?!arraycopy)"};

    public static void main(String[] args) throws IOException {
        Due due = new Due();
        face(due);
        classes(due);
        text(due);
        due.close();
    }

    private static void face(Due due) {
        Set<String> names = new TreeSet<>();
        Set<String> methods = new TreeSet<>();
        for (Method method : FrontFour.class.getDeclaredMethods()) {
            if (Modifier.isPublic(method.getModifiers())) {
                names.add(method.getName());
                methods.add(method.getName() + method.getParameterCount());
                boolean isShut = method.getName().equals("shut");
                due.is("answer of " + method, method.getReturnType() == (isShut ? boolean.class : int.class), true);
            }
        }
        due.is("the methods of the face", methods.equals(new TreeSet<>(List.of(FACE.split(" ")))), true);
        for (Method method : FrontFour.class.getDeclaredMethods()) {
            if (!Modifier.isPublic(method.getModifiers())) {
                due.is("private " + method, Modifier.isPrivate(method.getModifiers()), true);
                due.is("another name " + method, names.contains(method.getName()), false);
            }
        }
        for (Field field : FrontFour.class.getDeclaredFields()) {
            boolean isNone = field.getName().equals("NONE");
            due.is("private " + field, Modifier.isPrivate(field.getModifiers()), !isNone);
        }
        due.is("constructors", FrontFour.class.getConstructors().length, 1);
        due.is("final", Modifier.isFinal(FrontFour.class.getModifiers()), true);
    }

    private static void classes(Due due) {
        List<Class<?>> all = new ArrayList<>(List.of(FrontFour.class.getDeclaredClasses()));
        for (Class<?> inside : all) {
            due.is("static " + inside, Modifier.isStatic(inside.getModifiers()), true);
        }
        all.add(FrontFour.class);
        due.is("at most twelve classes", all.size() <= 12, true);
        for (Class<?> one : all) {
            int fields = 0;
            for (Field field : one.getDeclaredFields()) {
                boolean isStatic = Modifier.isStatic(field.getModifiers());
                fields += isStatic ? 0 : 1;
                due.is("static is final " + field, !isStatic || Modifier.isFinal(field.getModifiers()), true);
            }
            due.is("fields of " + one, fields <= 20, true);
            for (Method method : one.getDeclaredMethods()) {
                due.is("parameters of " + method, method.getParameterCount() <= 7, true);
            }
        }
    }

    private static void text(Due due) throws IOException {
        List<String> lines = Files.readAllLines(Path.of("src/main/java/FrontFour.java"));
        int begin = 0;
        for (int i = 0; i < lines.size(); i++) {
            String line = lines.get(i);
            String code = line.strip().startsWith("/**") ? "" : line;
            for (String wrong : NOT_ALLOWED) {
                due.is("line " + (i + 1) + " has not " + wrong, Pattern.compile(wrong).matcher(code).find(), false);
            }
            if (line.matches("    (    )?[a-zA-Z].*\\) \\{") || line.matches("    (    )?[A-Z][a-zA-Z]*\\(.*\\) \\{")) {
                begin = i;
            }
            if (line.matches("    (    )?}")) {
                due.is("lines of the method that ends at " + (i + 1), i - begin <= 60 || line.equals("    }"), true);
            }
            due.is("signs of line " + (i + 1), line.chars().allMatch(c -> c >= 32 && c < 127), true);
        }
    }
}

import java.io.IOException;
import java.lang.reflect.Constructor;
import java.lang.reflect.Field;
import java.lang.reflect.Method;
import java.lang.reflect.Modifier;
import java.nio.file.Files;
import java.nio.file.Path;
import java.util.List;
import java.util.TreeSet;
import java.util.regex.Matcher;
import java.util.regex.Pattern;

/** The document's public face, and those rules of LANGUAGE.md that can be seen from outside or in the text. */
public final class LanguageTest {
    private static final String FACE = "row/3 set/3 copy/5 drop/1 feed/1 glass/0 fault/0 play/1 put/2 grip/2 undo/0 "
        + "toy/2 column/2 gives/1 grips/1 win/2 haul/2 enough/1 share/2 fits/5 chance/5 drawn/3 image/1 restore/1 "
        + "kind/1 as/2 ask/2 trace/1 count/1 status/0";
    private static final String[] FORBIDDEN = {"throw", "throws", "try", "catch", "synchronized", "assert", "->", "::",
        "hashCode", "toString", "Exact", "static {", "Random", "Object", "System.out", "System.nano", "protected", "package"};

    public static void main(String[] args) throws IOException {
        face();
        nestedClasses();
        String text = Files.readString(Path.of("src/main/java/ClawCase.java"));
        // what stands in comments does not bind
        String code = text.replaceAll("(?s)/\\*.*?\\*/", "").replaceAll("//[^\n]*", "");
        words(code);
        objectsAreMadeInConstructorsAlone(code);
        methodsAreShort(text);
        Due.end();
    }

    private static void face() {
        TreeSet<String> due = new TreeSet<>(List.of(FACE.split(" ")));
        TreeSet<String> names = new TreeSet<>();
        for (Method m : ClawCase.class.getDeclaredMethods()) {
            if (Modifier.isPublic(m.getModifiers())) {
                Due.is("the face has " + m, due.remove(m.getName() + "/" + m.getParameterCount()) ? 1 : 0, 1);
                Due.is(m + " answers int", m.getReturnType() == int.class ? 1 : 0, 1);
                names.add(m.getName());
            }
        }
        Due.is("missing: " + due, due.size(), 0);
        for (Method m : ClawCase.class.getDeclaredMethods()) {
            if (!Modifier.isPublic(m.getModifiers())) {
                Due.is(m + " is private", Modifier.isPrivate(m.getModifiers()) ? 1 : 0, 1);
                Due.is(m + " bears a public name", names.contains(m.getName()) ? 1 : 0, 0);
            }
        }
        for (Field f : ClawCase.class.getDeclaredFields()) {
            boolean constant = List.of("NONE", "BAD", "STATE", "FULL").contains(f.getName());
            int wanted = constant ? Modifier.PUBLIC | Modifier.STATIC | Modifier.FINAL : Modifier.PRIVATE;
            Due.is(f + "", f.getModifiers() & wanted, wanted);
        }
        Constructor<?>[] makers = ClawCase.class.getDeclaredConstructors();
        Due.is("constructors", makers.length, 1);
        Due.is("the class is public, final", ClawCase.class.getModifiers(), Modifier.PUBLIC | Modifier.FINAL);
        Due.is("NONE", ClawCase.NONE, -1000000);
        Due.is("BAD", ClawCase.BAD, -1000001);
        Due.is("STATE", ClawCase.STATE, -1000002);
        Due.is("FULL", ClawCase.FULL, -1000003);
    }

    private static void nestedClasses() {
        Class<?>[] inside = ClawCase.class.getDeclaredClasses();
        Due.is("twelve classes at most", Math.max(12, inside.length + 1), 12);
        for (Class<?> c : inside) {
            Due.is(c + " is static", Modifier.isStatic(c.getModifiers()) ? 1 : 0, 1);
            int fields = 0;
            for (Field f : c.getDeclaredFields()) {
                fields += Modifier.isStatic(f.getModifiers()) ? 0 : 1;
                Due.is(f + " static and not final", f.getModifiers() & (Modifier.STATIC | Modifier.FINAL),
                    Modifier.isStatic(f.getModifiers()) ? Modifier.STATIC | Modifier.FINAL
                        : f.getModifiers() & Modifier.FINAL);
            }
            Due.is(c + " has twenty fields at most", Math.max(20, fields), 20);
            for (Method m : c.getDeclaredMethods()) {
                Due.is(m + " has seven parameters at most", Math.max(7, m.getParameterCount()), 7);
            }
        }
    }

    private static void words(String code) {
        for (String word : FORBIDDEN) {
            String pattern = Character.isLetter(word.charAt(0)) ? "\\b" + Pattern.quote(word) : Pattern.quote(word);
            Due.is("the code has " + word, Pattern.compile(pattern).matcher(code).find() ? 1 : 0, 0);
        }
        Matcher imports = Pattern.compile("import ([^;]*);").matcher(code);
        while (imports.find()) {
            Due.is("import of " + imports.group(1), imports.group(1).equals("java.util.Arrays") ? 1 : 0, 1);
        }
    }

    /** So the room that a run takes does not grow with its calls. */
    private static void objectsAreMadeInConstructorsAlone(String code) {
        String method = "";
        for (String line : code.split("\n")) {
            if (line.contains(" class ") || line.matches("\\s+(public )?[A-Z]\\w+\\(\\) \\{")) {
                method = "";
            } else if (line.matches("\\s+(public |private |static )*[\\w\\[\\]]+ \\w+\\([^;]*\\{")) {
                method = line.trim();
            }
            Due.is("new in " + method, line.contains("new ") && !method.isEmpty() ? 1 : 0, 0);
        }
    }

    private static void methodsAreShort(String text) {
        int length = 0;
        for (String line : text.split("\n")) {
            length++;
            boolean end = line.equals("    }") || line.equals("        }");
            boolean begin = line.matches("    (    )?\\w.*\\) \\{");
            Due.is("a method's lines at " + line, Math.max(60, begin || !end ? 60 : length), 60);
            length = begin || end ? 0 : length;
        }
    }
}

import java.io.IOException;
import java.lang.reflect.Constructor;
import java.lang.reflect.Field;
import java.lang.reflect.Method;
import java.lang.reflect.Modifier;
import java.nio.file.Files;
import java.nio.file.Path;
import java.util.Set;
import java.util.TreeSet;

/** The face of the class, and those rules of LANGUAGE.md that a machine can see. */
public final class LanguageTest {
    private static final String FACE = "answeredIn(int) ask() cell(int,int) clearText() count(int) keep() "
            + "master(int,int) next(int) pass(int) question(int,int) read(int,int,int) restore() row(int,int) "
            + "set(int,int) setCell(int,int,int) setShare(int,int) setTarget(int,int,int) tag(int) target(int,int) "
            + "type(char) undo() withdraw(int) write(int,int,int,int)";
    private static final String[] FORBIDDEN = {"throw", "throws", "try", "catch", "finally", "synchronized", "assert",
        "import", "package", "->", "::", "var", "Exception", "System.out", "instanceof"};

    public static void main(String[] args) throws IOException {
        face();
        classes();
        words();
        Due.is("UNKNOWN", TagBus.UNKNOWN, -1);
        Due.is("BAD_VALUE", TagBus.BAD_VALUE, -2);
        Due.is("FULL", TagBus.FULL, -3);
        Due.is("NOT_POSSIBLE", TagBus.NOT_POSSIBLE, -4);
        Due.is("NONE", TagBus.NONE, -5);
        Due.end();
    }

    private static void face() {
        Set<String> told = new TreeSet<>();
        Set<String> names = new TreeSet<>();
        for (Method method : TagBus.class.getDeclaredMethods()) {
            if (!Modifier.isPrivate(method.getModifiers())) {
                StringBuilder one = new StringBuilder(method.getName()).append('(');
                for (Class<?> type : method.getParameterTypes()) {
                    one.append(one.charAt(one.length() - 1) == '(' ? "" : ",").append(type.getSimpleName());
                }
                told.add(one.append(')').toString());
                names.add(method.getName());
                Due.same(method.getName(), Modifier.toString(method.getModifiers()) + " " + method.getReturnType(),
                        "public int");
            }
        }
        Due.same("the methods", String.join(" ", told), FACE);
        for (Class<?> type : TagBus.class.getDeclaredClasses()) {
            for (Method method : type.getDeclaredMethods()) {
                Due.is("a public name for " + method, names.contains(method.getName()) ? 1 : 0, 0);
            }
        }
        for (Method method : TagBus.class.getDeclaredMethods()) {
            if (Modifier.isPrivate(method.getModifiers())) {
                Due.is("a public name for " + method, names.contains(method.getName()) ? 1 : 0, 0);
            }
        }
        Due.same("the class", Modifier.toString(TagBus.class.getModifiers()), "public final");
        Constructor<?>[] made = TagBus.class.getDeclaredConstructors();
        Due.is("constructors", made.length, 1);
        Due.same("the constructor", made[0].toString(), "public TagBus()");
    }

    private static void classes() {
        Due.is("classes", TagBus.class.getDeclaredClasses().length <= 12 ? 0 : 1, 0);
        fields(TagBus.class, "BAD_VALUE FULL NONE NOT_POSSIBLE UNKNOWN");
        for (Class<?> type : TagBus.class.getDeclaredClasses()) {
            Due.is("static " + type, Modifier.isStatic(type.getModifiers()) ? 1 : 0, 1);
            Due.is("private " + type, Modifier.isPrivate(type.getModifiers()) ? 1 : 0, 1);
            fields(type, null);
        }
    }

    private static void fields(Class<?> type, String open) {
        Set<String> shown = new TreeSet<>();
        int own = 0;
        for (Field field : type.getDeclaredFields()) {
            if (Modifier.isStatic(field.getModifiers())) {
                Due.is("final " + field, Modifier.isFinal(field.getModifiers()) ? 1 : 0, 1);
            } else {
                own++;
            }
            if (!Modifier.isPrivate(field.getModifiers())) {
                shown.add(field.getName());
            }
        }
        Due.is("fields of " + type + " are " + own, own <= 20 ? 0 : 1, 0);
        if (open != null) {
            Due.same("the constants", String.join(" ", shown), open);
        }
    }

    private static void words() throws IOException {
        String source = Files.readString(Path.of("src/main/java/TagBus.java"));
        Due.is("signs outside ASCII", source.chars().filter(c -> c > 126).count(), 0);
        String code = source.replaceAll("(?s)/\\*.*?\\*/", " ").replaceAll("//[^\n]*", " ");
        for (String word : FORBIDDEN) {
            boolean isWord = Character.isLetter(word.charAt(0)) && Character.isLetter(word.charAt(word.length() - 1));
            boolean there = isWord
                    ? code.matches("(?s).*\\b" + word + "\\b.*")
                    : code.contains(word);
            Due.is(word + " in the source", there ? 1 : 0, 0);
        }
        Due.is("text constants", code.contains("\"") ? 1 : 0, 0);
    }
}

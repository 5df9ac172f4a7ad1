import java.io.IOException;
import java.lang.reflect.Constructor;
import java.lang.reflect.Field;
import java.lang.reflect.Method;
import java.lang.reflect.Modifier;
import java.nio.charset.StandardCharsets;
import java.nio.file.Files;
import java.nio.file.Path;
import java.util.Arrays;
import java.util.Set;
import java.util.TreeSet;
import java.util.regex.Matcher;
import java.util.regex.Pattern;

/** The public face as the document has it, and what of LANGUAGE.md can be seen without reading. */
public final class FaceTest {
    private static final String FACE = "int feed(int,int,int,int,int);boolean end(int);int town();int fault(int);"
            + "int has(int);int letter(int,int,int);int far(int,int);int person(int,int);int frame(int,int);"
            + "int where(int,int);int who(int,int);int agrees();int self(int,int);int cuts();int crowd();int empty();"
            + "int later(int,int);int meet(int,int);int round();int see();int began(int,int);int days(int);"
            + "int chance(int);boolean show(int,int,int);boolean cut(int);boolean watch(int,int);"
            + "boolean send(int,int);boolean undo();boolean seed(int);int kept(int,int);int image();int octet(int);"
            + "boolean on();int status(int)";

    public static void main(String[] args) throws IOException {
        face();
        insideClasses();
        source();
        Check.finish();
    }

    private static void face() {
        Check.due("NONE", SilentReel.NONE, -1);
        int modifiers = SilentReel.class.getModifiers();
        Check.due("public and final", Modifier.isPublic(modifiers) && Modifier.isFinal(modifiers), true);
        Set<String> due = new TreeSet<>(Arrays.asList(FACE.split(";")));
        Set<String> got = new TreeSet<>();
        Set<String> hidden = new TreeSet<>();
        Set<String> names = new TreeSet<>();
        for (Method method : SilentReel.class.getDeclaredMethods()) {
            if (Modifier.isPrivate(method.getModifiers())) {
                hidden.add(method.getName());
            } else if (!method.isSynthetic()) {
                names.add(method.getName());
                got.add(signature(method));
            }
        }
        Check.due("the methods " + got, got.equals(due), true);
        hidden.retainAll(names);
        Check.due("private ones with a public name " + hidden, hidden.isEmpty(), true);
        for (Field field : SilentReel.class.getDeclaredFields()) {
            boolean hiddenField = Modifier.isPrivate(field.getModifiers());
            Check.due("field " + field.getName(), hiddenField != field.getName().equals("NONE"), true);
            Check.due("static is final: " + field.getName(), isSound(field), true);
        }
        Constructor<?>[] constructors = SilentReel.class.getDeclaredConstructors();
        Check.due("constructors", constructors.length, 1);
        Check.due("its parameters", constructors[0].getParameterCount(), 0);
    }

    private static String signature(Method method) {
        StringBuilder text = new StringBuilder(method.getReturnType() + " " + method.getName() + "(");
        for (Class<?> type : method.getParameterTypes()) {
            text.append(text.charAt(text.length() - 1) == '(' ? "" : ",").append(type);
        }
        return text.append(")").toString();
    }

    private static boolean isOfTheFace(String name) {
        return FACE.contains(" " + name + "(");
    }

    private static boolean isSound(Field field) {
        int modifiers = field.getModifiers();
        return !Modifier.isStatic(modifiers) || Modifier.isFinal(modifiers);
    }

    private static void insideClasses() {
        Class<?>[] inside = SilentReel.class.getDeclaredClasses();
        Check.due("at most twelve classes", inside.length + 1 <= 12, true);
        for (Class<?> one : inside) {
            Check.due(one + " is static", Modifier.isStatic(one.getModifiers()), true);
            Check.due(one + " is not public", Modifier.isPublic(one.getModifiers()), false);
            int fields = 0;
            for (Field field : one.getDeclaredFields()) {
                fields += Modifier.isStatic(field.getModifiers()) ? 0 : 1;
                Check.due(one + " " + field.getName() + " is sound", isSound(field), true);
            }
            Check.due(one + " has few fields", fields <= 20, true);
            for (Method method : one.getDeclaredMethods()) {
                Check.due(method + " takes few", method.getParameterCount() <= 7, true);
                Check.due(method + " is private and has a public name",
                        Modifier.isPrivate(method.getModifiers()) && isOfTheFace(method.getName()), false);
            }
        }
    }

    private static void source() throws IOException {
        String text = Files.readString(Path.of("src/main/java/SilentReel.java"), StandardCharsets.ISO_8859_1);
        Check.due("no package", text.startsWith("package") || text.contains("\npackage"), false);
        String bare = text.replaceAll("(?s)/\\*.*?\\*/", " ").replaceAll("//[^\n]*", " ");
        for (String word : new String[] {"throw", "throws", "try", "catch", "synchronized", "assert", "->", "::",
            "System.out", "Exact"}) {
            Pattern whole = Pattern.compile(Character.isLetter(word.charAt(0)) ? "\\b" + word + "\\b"
                    : Pattern.quote(word));
            Check.due("no " + word, whole.matcher(bare).find(), false);
        }
        Matcher imports = Pattern.compile("import ([^;]*);").matcher(bare);
        while (imports.find()) {
            Check.due("import " + imports.group(1), imports.group(1).equals("java.util.Arrays"), true);
        }
        Check.due("texts joined by a plus", Pattern.compile("\"\\s*\\+|\\+\\s*\"").matcher(bare).find(), false);
        Check.due("signs beyond 127", text.chars().anyMatch(sign -> sign > 127), false);
    }
}

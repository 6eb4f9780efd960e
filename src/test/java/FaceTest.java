import java.lang.reflect.Constructor;
import java.lang.reflect.Field;
import java.lang.reflect.Method;
import java.lang.reflect.Modifier;
import java.nio.file.Files;
import java.nio.file.Path;
import java.util.Arrays;
import java.util.TreeSet;
import java.util.regex.Matcher;
import java.util.regex.Pattern;

/** The public face as the document has it, and the words that LANGUAGE.md rules out. */
public final class FaceTest {
    private static final String[] FACE = {
        "boolean person(int,int,boolean)", "int feed(int,int,int,int,int)", "int law(int)",
        "int gossip(int)", "int copy(int)", "int weeks(int)", "int tried(int,int)",
        "int personIs(int,int)", "int allKnow(int,int)", "int whose(int)", "int alone()",
        "int enough(int)", "int backNumber(int,int)", "int blackmail(int,int)",
        "int mostPrinted(int)", "int silent(int)", "int pair(int)", "int reached(int)",
        "int lineOf(int,int)", "int copyIs(int)", "int set(int,int)", "int type(int)",
        "int bought(int)", "int nuns(int,int)", "int space(int,int,int)", "int style(int,int)",
        "int names(int,int)", "int duty(int,int)", "int hands(int,int)", "boolean seed(int)",
        "int keep()", "boolean undo()", "int check(int)", "int count(int)",
    };

    private static final String[] RULED_OUT = {
        "throw", "throws", "try", "catch", "synchronized", "assert", "import", "package", "->", "::",
        "Object", "String\\.format", "System\\.out", "protected", "hashCode", "toString",
    };

    public static void main(String[] args) throws Exception {
        members();
        classesInside();
        words();
        Due.end();
    }

    private static void members() {
        Class<?> c = WhisperPress.class;
        Due.due("class modifiers", Modifier.PUBLIC | Modifier.FINAL, c.getModifiers());
        TreeSet<String> names = new TreeSet<>();
        for (Method m : c.getDeclaredMethods()) {
            if (!Modifier.isPrivate(m.getModifiers())) {
                String parameters = Arrays.toString(m.getParameterTypes()).replace(" ", "");
                names.add(m.getReturnType() + " " + m.getName() + "("
                        + parameters.substring(1, parameters.length() - 1) + ")");
                Due.due(m + " public", Modifier.PUBLIC, m.getModifiers());
            }
        }
        TreeSet<String> want = new TreeSet<>(Arrays.asList(FACE));
        if (!names.equals(want)) {
            System.out.println("face: " + names);
        }
        Due.due("methods of the face", true, names.equals(want));
        for (Method m : c.getDeclaredMethods()) {
            boolean bearsName = Arrays.stream(FACE).anyMatch(f -> f.contains(" " + m.getName() + "("));
            Due.due(m + " bears a public name", Modifier.isPublic(m.getModifiers()), bearsName);
        }
        for (Field f : c.getDeclaredFields()) {
            boolean isNone = f.getName().equals("NONE");
            Due.due(f + " public", isNone, Modifier.isPublic(f.getModifiers()));
            Due.due(f + " private", !isNone, Modifier.isPrivate(f.getModifiers()));
        }
        Due.due("NONE", -1, WhisperPress.NONE);
        Constructor<?>[] constructors = c.getDeclaredConstructors();
        Due.due("constructors", 1, constructors.length);
        Due.due("constructor public", Modifier.PUBLIC, constructors[0].getModifiers());
    }

    private static void classesInside() {
        Class<?>[] inside = WhisperPress.class.getDeclaredClasses();
        Due.due("some twelve classes at the most", true, inside.length < 12);
        for (Class<?> c : inside) {
            Due.due(c + " static", true, Modifier.isStatic(c.getModifiers()));
            for (Field f : c.getDeclaredFields()) {
                boolean isConstant = !Modifier.isStatic(f.getModifiers()) || Modifier.isFinal(f.getModifiers());
                Due.due(f + " no static state", true, isConstant);
            }
            for (Method m : c.getDeclaredMethods()) {
                boolean bearsName = Arrays.stream(FACE).anyMatch(f -> f.contains(" " + m.getName() + "("));
                Due.due(m + " bears a public name", false, bearsName);
                Due.due(m + " parameters", true, m.getParameterCount() <= 7);
            }
        }
    }

    private static void words() throws Exception {
        String source = Files.readString(Path.of("src/main/java/WhisperPress.java"));
        String code = source.replaceAll("(?s)/\\*.*?\\*/", "").replaceAll("//[^\n]*", "");
        for (String word : RULED_OUT) {
            String pattern = word.matches("\\w.*") ? "\\b" + word + "\\b" : word;
            Matcher m = Pattern.compile(pattern).matcher(code);
            Due.due("LANGUAGE.md: " + word, false, m.find());
        }
    }
}

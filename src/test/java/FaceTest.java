import java.lang.reflect.Constructor;
import java.lang.reflect.Field;
import java.lang.reflect.Method;
import java.lang.reflect.Modifier;
import java.nio.file.Files;
import java.nio.file.Path;
import java.util.Arrays;
import java.util.TreeSet;
import java.util.regex.Matcher;
import java.util.regex.Pattern;

/** The public face as the document has it, and the words that LANGUAGE.md rules out. */
public final class FaceTest {
    private static final String[] FACE = {
        "boolean person(int,int,boolean)", "int feed(int,int,int,int,int)", "int law(int)",
        "int gossip(int)", "int copy(int)", "int weeks(int)", "int tried(int,int)",
        "int personIs(int,int)", "int allKnow(int,int)", "int whose(int)", "int alone()",
        "int enough(int)", "int backNumber(int,int)", "int blackmail(int,int)",
        "int mostPrinted(int)", "int silent(int)", "int pair(int)", "int reached(int)",
        "int lineOf(int,int)", "int copyIs(int)", "int set(int,int)", "int type(int)",
        "int bought(int)", "int nuns(int,int)", "int space(int,int,int)", "int style(int,int)",
        "int names(int,int)", "int duty(int,int)", "int hands(int,int)", "boolean seed(int)",
        "int keep()", "boolean undo()", "int check(int)", "int count(int)",
    };

    private static final String[] RULED_OUT = {
        "throw", "throws", "try", "catch", "synchronized", "assert", "import", "package", "->", "::",
        "Object", "String\\.format", "System\\.out", "protected", "hashCode", "toString", "while", "do", "List",
        "double", "float", "Exact", "instanceof", "Throwable", "Exception", "interface", "enum", "record",
    };

    public static void main(String[] args) throws Exception {
        members();
        classesInside();
        words();
        lengths();
        objectsAreMadeWithThePress();
        Due.end();
    }

    private static void members() {
        Class<?> c = WhisperPress.class;
        Due.due("class modifiers", Modifier.PUBLIC | Modifier.FINAL, c.getModifiers());
        TreeSet<String> names = new TreeSet<>();
        for (Method m : c.getDeclaredMethods()) {
            if (!Modifier.isPrivate(m.getModifiers())) {
                String parameters = Arrays.toString(m.getParameterTypes()).replace(" ", "");
                names.add(m.getReturnType() + " " + m.getName() + "("
                        + parameters.substring(1, parameters.length() - 1) + ")");
                Due.due(m + " public", Modifier.PUBLIC, m.getModifiers());
            }
        }
        TreeSet<String> want = new TreeSet<>(Arrays.asList(FACE));
        if (!names.equals(want)) {
            System.out.println("face: " + names);
        }
        Due.due("methods of the face", true, names.equals(want));
        for (Method m : c.getDeclaredMethods()) {
            boolean bearsName = Arrays.stream(FACE).anyMatch(f -> f.contains(" " + m.getName() + "("));
            Due.due(m + " bears a public name", Modifier.isPublic(m.getModifiers()), bearsName);
        }
        for (Field f : c.getDeclaredFields()) {
            boolean isNone = f.getName().equals("NONE");
            Due.due(f + " public", isNone, Modifier.isPublic(f.getModifiers()));
            Due.due(f + " private", !isNone, Modifier.isPrivate(f.getModifiers()));
        }
        Due.due("NONE", -1, WhisperPress.NONE);
        Constructor<?>[] constructors = c.getDeclaredConstructors();
        Due.due("constructors", 1, constructors.length);
        Due.due("constructor public", Modifier.PUBLIC, constructors[0].getModifiers());
    }

    private static void classesInside() {
        Class<?>[] inside = WhisperPress.class.getDeclaredClasses();
        Due.due("some twelve classes at the most", true, inside.length < 12);
        for (Class<?> c : inside) {
            Due.due(c + " static", true, Modifier.isStatic(c.getModifiers()));
            for (Field f : c.getDeclaredFields()) {
                boolean isConstant = !Modifier.isStatic(f.getModifiers()) || Modifier.isFinal(f.getModifiers());
                Due.due(f + " no static state", true, isConstant);
            }
            Field[] all = c.getDeclaredFields();
            long fields = Arrays.stream(all).filter(f -> !Modifier.isStatic(f.getModifiers())).count();
            Due.due(c + " some twenty fields at the most", true, fields <= 20);
            for (Method m : c.getDeclaredMethods()) {
                boolean bearsName = Arrays.stream(FACE).anyMatch(f -> f.contains(" " + m.getName() + "("));
                Due.due(m + " bears a public name", false, bearsName);
                Due.due(m + " parameters", true, m.getParameterCount() <= 7);
            }
        }
    }

    private static String source() throws Exception {
        return Files.readString(Path.of("src/main/java/WhisperPress.java"));
    }

    private static String code() throws Exception {
        return source().replaceAll("(?s)/\\*.*?\\*/", "").replaceAll("//[^\n]*", "");
    }

    /** A method begins with a line that ends in ") {" and is not within one, and ends with a } as far in. */
    private static void lengths() throws Exception {
        int from = -1;
        String end = "";
        String[] lines = source().split("\n");
        for (int i = 0; i < lines.length; i++) {
            Matcher m = Pattern.compile("(    |        )[a-zA-Z][^=;]*\\) \\{").matcher(lines[i]);
            if (from < 0 && m.matches()) {
                from = i;
                end = m.group(1) + "}";
            } else if (from >= 0 && lines[i].equals(end)) {
                Due.due("lines of " + lines[from].trim(), true, i - from < 60);
                from = -1;
            }
            Due.due("signs of line " + i, true, lines[i].chars().allMatch(c -> c >= 32 && c < 127));
        }
        Due.due("each method ends", -1, from);
    }

    /** new stands in the constructor and where a field is told, nowhere else. */
    private static void objectsAreMadeWithThePress() throws Exception {
        for (String line : code().split("\n")) {
            if (line.matches(".*\\bnew\\b.*")) {
                boolean isField = line.matches("        (final )?(int\\[\\]|Law) \\w+ = new .*;");
                boolean isInConstructor = line.matches("        \\w+ = new \\w+\\(\\);");
                Due.due(line.trim(), true, isField || isInConstructor);
            }
        }
    }

    private static void words() throws Exception {
        String code = code();
        for (String word : RULED_OUT) {
            String pattern = word.matches("\\w.*") ? "\\b" + word + "\\b" : word;
            Matcher m = Pattern.compile(pattern).matcher(code);
            Due.due("LANGUAGE.md: " + word, false, m.find());
        }
    }
}

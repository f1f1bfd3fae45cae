import java.io.IOException;
import java.lang.reflect.Constructor;
import java.lang.reflect.Field;
import java.lang.reflect.Method;
import java.lang.reflect.Modifier;
import java.nio.file.Files;
import java.nio.file.Path;
import java.util.List;
import java.util.Set;
import java.util.TreeSet;
import java.util.regex.Matcher;
import java.util.regex.Pattern;
import java.util.stream.Collectors;

/** The document's public face, and those rules of LANGUAGE.md that can be seen from outside or by words. */
public final class FaceTest {
    private static final Set<String> FACE = Set.of(
            "int put(int, int, int, int)", "int ramp(int, int, int, int)", "int drift(int, int, int)",
            "int roughen(int, int)", "int invert(int, int, int)", "int pixel(int, int, int)",
            "int cost(int, int, int)", "int setVector(int, int, int)", "int search()", "int vector(int, int)",
            "int encode(int)", "int decode(int)", "int erase(int)", "int copySlot(int)", "int filled(int)",
            "int out(int, int, int)", "int outVector(int, int)", "void adopt()", "int difference(int)");
    private static final Set<Class<?>> NUMBERS =
            Set.of(int.class, long.class, short.class, byte.class, char.class, boolean.class);
    private static final List<String> FORBIDDEN = List.of("package", "import", "float", "double", "null", "throw",
            "throws", "try", "catch", "finally", "synchronized", "assert", "instanceof", "enum", "interface", "record",
            "String", "Math", "Integer", "System", "Arrays", "Object", "var", "super", "extends", "implements",
            "protected", "volatile", "native");

    public static void main(String[] args) throws IOException {
        theClassIsPublicAndFinal();
        theFaceIsTheDocuments();
        privateMembersKeepTheRules();
        theSourceKeepsTheRules();
        Check.end();
    }

    private static void theClassIsPublicAndFinal() {
        Class<?> c = TemporalLift.class;
        Check.same("modifiers of the class", c.getModifiers(), Modifier.PUBLIC | Modifier.FINAL);
        Check.holds("the class has no package", c.getPackageName().isEmpty());
        Check.holds("the class extends Object alone", c.getSuperclass() == Object.class && c.getInterfaces().length == 0);
        Check.same("nested classes", c.getDeclaredClasses().length, 0);
        Constructor<?>[] made = c.getDeclaredConstructors();
        Check.same("constructors", made.length, 1);
        Check.same("modifiers of the constructor", made[0].getModifiers(), Modifier.PUBLIC);
        Check.same("parameters of the constructor", made[0].getParameterCount(), 0);
    }

    private static void theFaceIsTheDocuments() {
        Set<String> seen = new TreeSet<>();
        for (Method m : TemporalLift.class.getDeclaredMethods()) {
            if (!Modifier.isPrivate(m.getModifiers())) {
                Check.same("modifiers of " + m.getName(), m.getModifiers(), Modifier.PUBLIC);
                seen.add(m.getReturnType().getName() + " " + m.getName() + List.of(m.getParameterTypes()).stream()
                        .map(Class::getName).collect(Collectors.joining(", ", "(", ")")));
            }
        }
        Check.holds("the public methods are the document's: " + seen, seen.equals(FACE));
    }

    private static void privateMembersKeepTheRules() {
        Set<String> face = FACE.stream().map(s -> s.replaceAll("^\\w+ |\\(.*", "")).collect(Collectors.toSet());
        int variables = 0;
        for (Field f : TemporalLift.class.getDeclaredFields()) {
            Class<?> type = f.getType();
            Check.holds("field " + f.getName() + " is private", Modifier.isPrivate(f.getModifiers()));
            if (Modifier.isStatic(f.getModifiers())) {
                boolean constant = Modifier.isFinal(f.getModifiers()) && (type == int.class || type == long.class);
                Check.holds("static field " + f.getName() + " is a constant of int or long", constant);
            } else {
                variables++;
                Class<?> element = type.isArray() ? type.getComponentType() : type;
                Check.holds("field " + f.getName() + " is of numbers", NUMBERS.contains(element));
            }
        }
        Check.holds("some forty fields at most", variables <= 40);
        for (Method m : TemporalLift.class.getDeclaredMethods()) {
            Check.holds("at most seven parameters: " + m.getName(), m.getParameterCount() <= 7);
            Check.holds("no array is answered: " + m.getName(), !m.getReturnType().isArray());
            if (Modifier.isPrivate(m.getModifiers())) {
                Check.holds("no private method is called as a public one: " + m.getName(), !face.contains(m.getName()));
            }
        }
    }

    private static void theSourceKeepsTheRules() throws IOException {
        String source = Files.readString(Path.of("src/main/java/TemporalLift.java"));
        String code = source.replaceAll("(?s)/\\*.*?\\*/", " ").replaceAll("//[^\n]*", " ");
        for (String word : FORBIDDEN) {
            Check.holds("no " + word + " in the class", !Pattern.compile("\\b" + word + "\\b").matcher(code).find());
        }
        Check.holds("no lambda, method reference, text or annotation", !Pattern.compile("->|::|\"|@").matcher(code).find());
        Check.holds("no array of arrays", !Pattern.compile("\\]\\s*\\[").matcher(code).find());
        Check.holds("calls on no object", !Pattern.compile("\\.\\s*\\w+\\s*\\(").matcher(code).find());
        Matcher made = Pattern.compile("[^\n]*\\bnew\\b[^\n]*").matcher(code);
        while (made.find()) {
            Check.holds("made in a field's initialiser, of a constant length:" + made.group(),
                    made.group().matches(" {4}private final (int|boolean)\\[\\] \\w+ = new \\1\\[[A-Z_]+\\];"));
        }
    }
}

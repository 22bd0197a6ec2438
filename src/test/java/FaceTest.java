import java.io.IOException;
import java.lang.reflect.Constructor;
import java.lang.reflect.Field;
import java.lang.reflect.Method;
import java.lang.reflect.Modifier;
import java.nio.file.Files;
import java.nio.file.Path;
import java.util.ArrayList;
import java.util.List;
import java.util.TreeSet;
import java.util.regex.Matcher;
import java.util.regex.Pattern;

/** The public face of the document, and those rules of LANGUAGE.md that can be told from the class and its text. */
public final class FaceTest {
    private static final Checks CHECKS = new Checks("FaceTest");
    private static final Path SOURCE = Path.of("src/main/java/DarkOffice.java");
    private static final Path DOCUMENT = Path.of("../shared/DOC.md");
    private static final String[] FACE = {
        "int letter(int)", "int blank()", "int fault()", "int office()", "int lamp(int,int)", "int as(int,int)",
        "int person(int)", "int about(int,int)", "int move(int,int)", "int minute(int)", "int least(int,int)",
        "int round(int,int)", "int together(int)", "int book(int,int,boolean)", "int forget()",
        "int waved(int,int,int)", "int look(int,int)", "int nights(int,int,int)", "int image()", "int restore()",
        "int count(int)", "long digest()",
    };

    public static void main(String[] args) throws IOException {
        constants();
        theClass();
        methods();
        classesInside();
        String text = withoutComments(Files.readString(SOURCE));
        words(text);
        faceOfTheDocument(text);
        CHECKS.end();
    }

    private static void isSo(String what, boolean so) {
        CHECKS.due(what, so ? 1 : 0, 1);
    }

    private static void constants() {
        CHECKS.due("NONE", DarkOffice.NONE, -1);
        CHECKS.due("UNKNOWN", DarkOffice.UNKNOWN, -101);
        CHECKS.due("OUTSIDE", DarkOffice.OUTSIDE, -102);
        CHECKS.due("STATE", DarkOffice.STATE, -103);
        CHECKS.due("FULL", DarkOffice.FULL, -104);
        int open = 0;
        for (Field field : DarkOffice.class.getDeclaredFields()) {
            open += Modifier.isPrivate(field.getModifiers()) ? 0 : 1;
        }
        CHECKS.due("constants in all", open, 5);
    }

    private static void theClass() {
        int modifiers = DarkOffice.class.getModifiers();
        isSo("the class is public and final", Modifier.isPublic(modifiers) && Modifier.isFinal(modifiers));
        Constructor<?>[] constructors = DarkOffice.class.getDeclaredConstructors();
        CHECKS.due("constructors", constructors.length, 1);
        isSo("the constructor is public, without parameters", Modifier.isPublic(constructors[0].getModifiers())
                && constructors[0].getParameterCount() == 0);
    }

    private static String face(Method method) {
        List<String> types = new ArrayList<>();
        for (Class<?> type : method.getParameterTypes()) {
            types.add(type.getName());
        }
        return method.getReturnType().getName() + " " + method.getName() + "(" + String.join(",", types) + ")";
    }

    private static void methods() {
        TreeSet<String> open = new TreeSet<>();
        TreeSet<String> names = new TreeSet<>();
        for (Method method : DarkOffice.class.getDeclaredMethods()) {
            if (!Modifier.isPrivate(method.getModifiers())) {
                open.add((Modifier.isPublic(method.getModifiers()) ? "" : "not public: ") + face(method));
                names.add(method.getName());
            }
        }
        isSo("the face is the document's, not " + open, open.equals(new TreeSet<>(List.of(FACE))));
        for (Method method : DarkOffice.class.getDeclaredMethods()) {
            isSo(method.getName() + " is not public and private",
                    !Modifier.isPrivate(method.getModifiers()) || !names.contains(method.getName()));
            isSo(method.getName() + " has at most 7 parameters", method.getParameterCount() <= 7);
        }
    }

    private static void classesInside() {
        Class<?>[] inside = DarkOffice.class.getDeclaredClasses();
        isSo("at most 12 classes", inside.length < 12);
        for (Class<?> each : inside) {
            int modifiers = each.getModifiers();
            isSo(each.getName() + " is static", Modifier.isStatic(modifiers));
            isSo(each.getName() + " is not public", !Modifier.isPublic(modifiers) && !Modifier.isProtected(modifiers));
            isSo(each.getName() + " has at most 20 fields", each.getDeclaredFields().length <= 20);
            for (Method method : each.getDeclaredMethods()) {
                String name = each.getName() + "." + method.getName();
                boolean ofTheFace = String.join(" ", FACE).contains(" " + method.getName() + "(");
                isSo(name + " bears no name of the face", !ofTheFace);
                isSo(name + " has at most 7 parameters", method.getParameterCount() <= 7);
            }
        }
    }

    /** Names of parameters are not in the compiled class: the text has each line of the face, word by word. */
    private static void faceOfTheDocument(String text) throws IOException {
        if (!Files.isReadable(DOCUMENT)) {
            return;
        }
        String document = Files.readString(DOCUMENT);
        int begin = document.indexOf("```java\n");
        int end = document.indexOf("```", begin + 1);
        isSo("the document has a face", begin >= 0 && end > begin);
        int lines = 0;
        for (String line : document.substring(begin, end).split("\n")) {
            if (line.startsWith("    public ")) {
                isSo("the class has " + line.trim(), text.contains(line.replace(");", ") {")));
                lines++;
            }
        }
        CHECKS.due("lines of the face: constants, constructor, methods", lines, 2 + FACE.length);
    }

    private static String withoutComments(String text) {
        return text.replaceAll("(?s)/\\*.*?\\*/", " ").replaceAll("//[^\n]*", " ");
    }

    private static void words(String text) {
        String[] never = {"throw", "throws", "try", "catch", "synchronized", "assert", "import", "package", "System",
            "protected", "Random", "Thread", "equals", "hashCode", "toString"};
        for (String word : never) {
            isSo("no word " + word, !Pattern.compile("\\b" + word + "\\b").matcher(text).find());
        }
        isSo("no lambda, no method reference", !text.contains("->") && !text.contains("::"));
        isSo("nothing is made but by fields", madeByFields(text));
    }

    /** What a call makes is counted over all calls of a run: here only a new object makes anything. */
    private static boolean madeByFields(String text) {
        Matcher made = Pattern.compile("[^\n]*\\bnew\\b[^\n]*").matcher(text);
        boolean so = true;
        while (made.find()) {
            so &= made.group().matches(" *(private )?final [\\w\\[\\]]+ \\w+ = new .*;");
        }
        return so;
    }
}

import java.lang.reflect.Constructor;
import java.lang.reflect.Field;
import java.lang.reflect.Member;
import java.lang.reflect.Method;
import java.lang.reflect.Modifier;
import java.nio.file.Files;
import java.nio.file.Path;
import java.util.Set;
import java.util.TreeSet;
import java.util.regex.Matcher;
import java.util.regex.Pattern;

/** The public face of the document, and the rules of LANGUAGE.md that can be read off. */
public final class LanguageTest {
    private static final String SOURCE = "src/main/java/ClassAnswers.java";
    private static final String[] FACE = {
        "about(int,int)", "answers()", "ask(int,int,int)", "base(int,int,int)", "best()",
        "book(int,int)", "box()", "close(int)", "count(int)", "draw()", "marks(int)",
        "number(int)", "order(int)", "road(int,int,int,int)", "rule(int,int)", "seed(int)",
        "send(int,int)", "share(int)", "teams(int,int)", "ticks(int)"};

    public static void main(String[] args) throws Exception {
        face();
        membersOfTheClass();
        classesInside();
        words();
        methodLengths();
        Check.end();
    }

    private static void face() {
        Set<String> found = new TreeSet<>();
        for (Method method : ClassAnswers.class.getDeclaredMethods()) {
            if (Modifier.isPublic(method.getModifiers())) {
                String text = method.toGenericString();
                found.add(text.substring(text.indexOf("ClassAnswers.") + 13));
                Check.holds(method + " answers int", method.getReturnType() == int.class);
                Check.holds(method + " is not static", !Modifier.isStatic(method.getModifiers()));
            }
        }
        Check.holds("methods: " + found, found.equals(new TreeSet<>(Set.of(FACE))));
        Constructor<?>[] constructors = ClassAnswers.class.getDeclaredConstructors();
        Check.due("constructors", constructors.length, 1);
        Check.due("its parameters", constructors[0].getParameterCount(), 0);
        Check.holds("it is public", Modifier.isPublic(constructors[0].getModifiers()));
        Check.holds("final", Modifier.isFinal(ClassAnswers.class.getModifiers()));
        Check.holds("public", Modifier.isPublic(ClassAnswers.class.getModifiers()));
    }

    private static void membersOfTheClass() {
        Set<String> constants = new TreeSet<>();
        for (Field field : ClassAnswers.class.getDeclaredFields()) {
            if (Modifier.isPublic(field.getModifiers())) {
                constants.add(field.getName());
            } else {
                isPrivate(field);
            }
        }
        Check.holds("constants: " + constants,
                constants.equals(new TreeSet<>(Set.of("BAD", "NO", "FULL", "NONE"))));
        for (Method method : ClassAnswers.class.getDeclaredMethods()) {
            if (!Modifier.isPublic(method.getModifiers())) {
                isPrivate(method);
            }
        }
    }

    private static void isPrivate(Member member) {
        Check.holds(member + " is private", Modifier.isPrivate(member.getModifiers()));
    }

    private static void classesInside() {
        Set<String> publicNames = new TreeSet<>();
        for (String method : FACE) {
            publicNames.add(method.substring(0, method.indexOf('(')));
        }
        Class<?>[] inside = ClassAnswers.class.getDeclaredClasses();
        Check.holds("at most twelve classes", inside.length < 12);
        checkMethodsAndFields(ClassAnswers.class, publicNames);
        for (Class<?> one : inside) {
            Check.holds(one + " is static", Modifier.isStatic(one.getModifiers()));
            Check.holds(one + " is not public", !Modifier.isPublic(one.getModifiers()));
            checkMethodsAndFields(one, publicNames);
        }
    }

    private static void checkMethodsAndFields(Class<?> one, Set<String> publicNames) {
        for (Method method : one.getDeclaredMethods()) {
            Check.holds(method + " takes at most seven", method.getParameterCount() <= 7);
            if (one != ClassAnswers.class || !Modifier.isPublic(method.getModifiers())) {
                Check.holds(method + " has a name of its own",
                        !publicNames.contains(method.getName()));
            }
        }
        int fields = 0;
        for (Field field : one.getDeclaredFields()) {
            if (Modifier.isStatic(field.getModifiers())) {
                Check.holds(field + " is final", Modifier.isFinal(field.getModifiers()));
            } else {
                fields++;
            }
        }
        Check.holds(one + " has at most twenty fields", fields <= 20);
    }

    private static String code() throws Exception {
        String text = Files.readString(Path.of(SOURCE));
        return text.replaceAll("(?s)/\\*.*?\\*/", "").replaceAll("//[^\n]*", "");
    }

    private static void words() throws Exception {
        String code = code();
        String[] barred = {"throw", "throws", "try", "catch", "finally", "synchronized", "assert",
            "import", "package", "protected", "volatile", "Object", "Thread", "System", "native",
            "\\w+Exact", "Random", "double", "float", "java"};
        for (String word : barred) {
            Matcher found = Pattern.compile("\\b" + word + "\\b").matcher(code);
            Check.holds("no '" + word + "'", !found.find());
        }
        for (String sign : new String[] {"->", "::", "static {", "\""}) {
            Check.holds("no '" + sign + "'", !code.contains(sign));
        }
        Check.holds("ASCII alone", code.chars().allMatch(sign -> sign < 128));
    }

    /** Methods of the class stand four columns in, those of classes inside it eight. */
    private static void methodLengths() throws Exception {
        String[] lines = Files.readString(Path.of(SOURCE)).split("\n");
        for (int i = 0; i < lines.length; i++) {
            Matcher head = Pattern.compile("^( {4}| {8})\\S.*\\).*\\{$").matcher(lines[i]);
            if (head.find()) {
                int end = i;
                while (!lines[end].equals(head.group(1) + "}") && end < lines.length - 1) {
                    end++;
                }
                Check.holds(lines[i].trim() + " is short", end - i < 60);
            }
        }
    }
}

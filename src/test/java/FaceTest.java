import java.io.IOException;
import java.lang.reflect.Constructor;
import java.lang.reflect.Field;
import java.lang.reflect.Method;
import java.lang.reflect.Modifier;
import java.nio.file.Files;
import java.nio.file.Path;
import java.util.Arrays;
import java.util.Set;
import java.util.TreeSet;
import java.util.regex.Matcher;
import java.util.regex.Pattern;

/** The public face with its constants, and those rules of LANGUAGE.md that a look at the source can tell. */
final class FaceTest {
    private static final Check check = new Check();

    private static final String INDEX = "IndexOutOfBoundsException";
    private static final String ARGUMENT = "IllegalArgumentException";
    private static final String STATE = "IllegalStateException";

    private static final String[] CALLS = {
        "int setHeight(int,int,int) " + INDEX + " " + ARGUMENT,
        "int hill(int,int,int,int) " + INDEX + " " + ARGUMENT,
        "int setGround(int,int,int,int,int) " + INDEX + " " + ARGUMENT,
        "int control(int,int) " + INDEX + " " + STATE,
        "int visit(int,int) " + INDEX + " " + STATE,
        "int arrange(int,int) " + INDEX + " " + ARGUMENT + " " + STATE,
        "int enter(int,int) " + INDEX + " " + ARGUMENT + " " + STATE,
        "int draw(int,int) " + ARGUMENT + " " + STATE,
        "int punch(int,int,int) " + INDEX + " " + STATE + " " + ARGUMENT,
        "boolean fail(int,boolean) " + INDEX + " " + STATE,
        "int cell(int,int) " + INDEX,
        "int lines(int) " + ARGUMENT,
        "int rings(int) " + ARGUMENT,
        "int longest(int) " + ARGUMENT,
        "int cost(int,int) " + INDEX,
        "int costByCells(int,int) " + INDEX,
        "int climb(int,int) " + INDEX,
        "boolean tempts(int,int) " + INDEX,
        "int courseAt(int,int) " + INDEX,
        "int courseClimb(int) " + INDEX,
        "int courseCost(int) " + INDEX,
        "int spread()",
        "int runners()",
        "int startOf(int) " + INDEX,
        "int stateOf(int) " + INDEX,
        "int split(int,int) " + INDEX,
        "int total(int) " + INDEX,
        "int rank(int) " + INDEX,
        "int lost(int,int) " + INDEX,
    };

    public static void main(String[] args) throws IOException {
        constants();
        callsOfTheFace();
        nothingElseIsVisible();
        sourceKeepsToTheLanguage(Files.readString(Path.of("src/main/java/Spurline.java")));
        check.end("FaceTest");
    }

    private static void constants() {
        check.due("NONE", Spurline.NONE, -1);
        check.due("RUNNING", Spurline.RUNNING, 0);
        check.due("RANKED", Spurline.RANKED, 1);
        check.due("WRONG", Spurline.WRONG, 2);
    }

    private static void callsOfTheFace() {
        Set<String> found = new TreeSet<>();
        for (Method method : Spurline.class.getDeclaredMethods()) {
            if (Modifier.isPublic(method.getModifiers())) {
                found.add(asText(method));
                check.isFalse(method.getName() + " is static", Modifier.isStatic(method.getModifiers()));
            }
        }
        for (String call : CALLS) {
            check.isTrue("the face has " + call, found.contains(call));
        }
        check.due("calls of the face", found.size(), CALLS.length);
    }

    private static String asText(Method method) {
        StringBuilder text = new StringBuilder(method.getReturnType() + " " + method.getName() + "(");
        String between = "";
        for (Class<?> type : method.getParameterTypes()) {
            text.append(between).append(type);
            between = ",";
        }
        text.append(")");
        for (Class<?> type : method.getExceptionTypes()) {
            text.append(" ").append(type.getSimpleName());
        }
        return text.toString();
    }

    private static void nothingElseIsVisible() {
        check.isTrue("the class is public and final",
                Modifier.isPublic(Spurline.class.getModifiers()) && Modifier.isFinal(Spurline.class.getModifiers()));
        Set<String> constants = Set.of("NONE", "RUNNING", "RANKED", "WRONG");
        for (Field field : Spurline.class.getDeclaredFields()) {
            boolean isConstant = constants.contains(field.getName());
            int modifiers = field.getModifiers();
            check.isTrue("field " + field.getName(), isConstant ? Modifier.isPublic(modifiers) : Modifier.isPrivate(modifiers));
            check.isTrue("static fields are final: " + field.getName(),
                    !Modifier.isStatic(modifiers) || Modifier.isFinal(modifiers));
        }
        for (Constructor<?> constructor : Spurline.class.getDeclaredConstructors()) {
            check.isTrue("constructor of a width and a height", Modifier.isPublic(constructor.getModifiers())
                    && Arrays.equals(constructor.getParameterTypes(), new Class<?>[] {int.class, int.class}));
        }
        Set<String> face = new TreeSet<>();
        for (Method method : Spurline.class.getDeclaredMethods()) {
            if (Modifier.isPublic(method.getModifiers())) {
                face.add(method.getName());
            }
        }
        hidesItsOwn(Spurline.class, face);
        for (Class<?> inside : Spurline.class.getDeclaredClasses()) {
            check.isTrue(inside + " is static", Modifier.isStatic(inside.getModifiers()));
            check.isFalse(inside + " is public", Modifier.isPublic(inside.getModifiers()));
            hidesItsOwn(inside, face);
        }
        check.isTrue("at most twelve classes", Spurline.class.getDeclaredClasses().length < 12);
    }

    private static void hidesItsOwn(Class<?> owner, Set<String> face) {
        check.isTrue(owner + " has at most twenty fields", owner.getDeclaredFields().length <= 20 || owner == Spurline.class);
        for (Method method : owner.getDeclaredMethods()) {
            check.isTrue(method + " has at most seven parameters", method.getParameterCount() <= 7);
            boolean isFace = owner == Spurline.class && Modifier.isPublic(method.getModifiers());
            if (!isFace) {
                check.isFalse(method + " bears the name of a public one", face.contains(method.getName()));
                check.isTrue(method + " is hidden", owner != Spurline.class || Modifier.isPrivate(method.getModifiers()));
            }
        }
    }

    private static void sourceKeepsToTheLanguage(String source) {
        String code = source.replaceAll("(?s)/\\*.*?\\*/", " ").replaceAll("//[^\n]*", " ").replaceAll("\"[^\"\n]*\"", "\"\"");
        String[] ruledOut = {"->", "::", "\\bimport\\b", "\\bpackage\\b", "\\btry\\b", "\\bcatch\\b", "\\bfinally\\b",
            "\\bsynchronized\\b", "\\bassert\\b", "\\bThread\\b", "\\bSystem\\.(?!arraycopy)", "\\bRuntime\\b",
            "\\w+Exact\\b", "\\bObject\\b", "\\.hashCode\\b", "\\.toString\\b", "@", "\\bvar\\b"};
        for (String pattern : ruledOut) {
            check.isFalse("the source has " + pattern, Pattern.compile(pattern).matcher(code).find());
        }
        check.isTrue("the source is of plain signs", source.chars().allMatch(sign -> sign < 128));
        Matcher index = Pattern.compile("\\w\\[").matcher(code);
        while (index.find()) {
            String before = code.substring(0, index.start());
            String row = before.substring(Math.max(0, before.lastIndexOf("class ")));
            check.isTrue("an index stands in Row alone", row.startsWith("class Row"));
        }
        for (Matcher divisor = Pattern.compile("[/%]\\s*(\\w+)").matcher(code); divisor.find();) {
            boolean isConstant = divisor.group(1).matches("[A-Z_]+|[1-9]\\d*");
            check.isTrue("divided by " + divisor.group(1), isConstant || divisor.group(1).equals("bestTogether"));
        }
    }
}

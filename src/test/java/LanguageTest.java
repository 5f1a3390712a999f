import java.io.IOException;
import java.lang.reflect.Constructor;
import java.lang.reflect.Field;
import java.lang.reflect.Method;
import java.lang.reflect.Modifier;
import java.nio.file.Files;
import java.nio.file.Path;
import java.util.ArrayList;
import java.util.Collections;
import java.util.HashSet;
import java.util.List;
import java.util.Set;
import java.util.regex.Matcher;
import java.util.regex.Pattern;

/** The document's face, and those rules of LANGUAGE.md that can be seen in the text and in the compiled class. */
public final class LanguageTest {
    private static final String[] FACE = {
        "int letter(int)", "int blank()", "int fault()", "int names()", "int dial()", "int drop(int)", "int use(int,int)",
        "int name(int,int)", "int sign(int,int)", "int digit(int,int)", "int laid(int)", "int about(int)", "int press(int)",
        "int back()", "int wipe()", "int typed(int)", "int choice(int)", "int spelling(int)", "int piece(int)",
        "int build(int)", "int tend(int)", "int path(int,int)", "int leads(int)", "int menu(int)", "int count(int)",
        "long digest()"
    };
    private static final String[] FORBIDDEN = {
        "\\bthrow\\b", "\\btry\\b", "\\bcatch\\b", "\\bsynchronized\\b", "\\bassert\\b", "->", "::", "\\bpackage\\b",
        "\\bvar\\b", "Exact\\b", "\\bprotected\\b", "\\bstatic\\s*\\{", "\\[\\]\\[\\]\\[\\]", "\\bdouble\\b", "\\bfloat\\b",
        "\\bSystem\\.(?!arraycopy)", "\\bObject\\b", "\\bRandom\\b", "\\bThread\\b", "\\bhashCode\\b", "\\bnative\\b"
    };
    private static final Check check = new Check();

    public static void main(String[] args) throws IOException {
        face();
        nestedClasses();
        String source = Files.readString(Path.of("src/main/java/DialMenus.java"));
        text(source);
        methodLengths(source);
        check.end();
    }

    private static void face() {
        check.holds("the class is public and final", DialMenus.class.getModifiers() == (Modifier.PUBLIC | Modifier.FINAL));
        List<String> open = new ArrayList<>();
        Set<String> publicNames = new HashSet<>();
        for (Method method : DialMenus.class.getDeclaredMethods()) {
            if (!Modifier.isPrivate(method.getModifiers())) {
                open.add(signature(method));
                publicNames.add(method.getName());
            }
        }
        List<String> face = new ArrayList<>(List.of(FACE));
        Collections.sort(face);
        Collections.sort(open);
        check.holds("the methods are the document's: " + open, open.equals(face));
        noPrivateNamesake(DialMenus.class, publicNames);
        for (Class<?> nested : DialMenus.class.getDeclaredClasses()) {
            noPrivateNamesake(nested, publicNames);
        }
        Constructor<?>[] constructors = DialMenus.class.getDeclaredConstructors();
        check.holds("one constructor", constructors.length == 1 && constructors[0].getModifiers() == Modifier.PUBLIC
            && constructors[0].getParameterCount() == 0);
        fields();
    }

    private static void noPrivateNamesake(Class<?> one, Set<String> publicNames) {
        for (Method method : one.getDeclaredMethods()) {
            check.holds("no private " + method, !Modifier.isPrivate(method.getModifiers())
                || !publicNames.contains(method.getName()));
        }
    }

    private static String signature(Method method) {
        StringBuilder signature = new StringBuilder(method.getReturnType() + " " + method.getName() + "(");
        for (Class<?> parameter : method.getParameterTypes()) {
            signature.append(signature.toString().endsWith("(") ? "" : ",").append(parameter);
        }
        return signature.append(")").toString();
    }

    private static void fields() {
        Set<String> constants = new HashSet<>();
        for (Field field : DialMenus.class.getDeclaredFields()) {
            int modifiers = field.getModifiers();
            if (!Modifier.isPrivate(modifiers)) {
                constants.add(field.getName());
                check.holds(field.getName() + " is a constant int",
                    modifiers == (Modifier.PUBLIC | Modifier.STATIC | Modifier.FINAL) && field.getType() == int.class);
            }
            check.holds(field.getName() + ": static is final", !Modifier.isStatic(modifiers) || Modifier.isFinal(modifiers));
        }
        check.holds("the constants are the document's",
            constants.equals(Set.of("NONE", "UNKNOWN", "OUTSIDE", "STATE", "FULL")));
    }

    private static void nestedClasses() {
        Class<?>[] nested = DialMenus.class.getDeclaredClasses();
        check.holds("at most twelve classes", nested.length + 1 <= 12);
        for (Class<?> one : nested) {
            check.holds(one.getName() + " is static", Modifier.isStatic(one.getModifiers()));
            int fields = 0;
            for (Field field : one.getDeclaredFields()) {
                fields += Modifier.isStatic(field.getModifiers()) ? 0 : 1;
            }
            check.holds(one.getName() + " has few fields", fields <= 20);
            for (Method method : one.getDeclaredMethods()) {
                check.holds(method + " has few parameters", method.getParameterCount() <= 7);
            }
        }
    }

    private static String withoutComments(String source) {
        return source.replaceAll("(?s)/\\*.*?\\*/", "").replaceAll("//[^\n]*", "");
    }

    private static void text(String source) {
        String code = withoutComments(source);
        for (String pattern : FORBIDDEN) {
            Matcher matcher = Pattern.compile(pattern).matcher(code);
            check.holds("no " + pattern, !matcher.find());
        }
        Matcher imports = Pattern.compile("import ([^;]*);").matcher(code);
        while (imports.find()) {
            check.holds("import of " + imports.group(1), Set.of("java.util.Arrays").contains(imports.group(1)));
        }
        check.holds("plain characters", source.chars().allMatch(sign -> sign == '\n' || sign >= 32 && sign < 127));
    }

    private static void methodLengths(String source) {
        int start = 0;
        int number = 0;
        String indent = "";
        for (String line : source.split("\n")) {
            number++;
            Matcher head = Pattern.compile("^( {4}| {8})\\S.*\\) \\{$").matcher(line);
            if (head.matches()) {
                start = number;
                indent = head.group(1);
            } else if (start > 0 && line.equals(indent + "}")) {
                check.holds("the method at line " + start + " is short", number - start + 1 <= 60);
                start = 0;
            }
        }
    }
}

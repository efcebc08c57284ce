import java.lang.reflect.Constructor;
import java.lang.reflect.Field;
import java.lang.reflect.Method;
import java.lang.reflect.Modifier;
import java.nio.file.Files;
import java.nio.file.Path;
import java.util.Arrays;
import java.util.List;
import java.util.Set;
import java.util.TreeSet;
import java.util.regex.Matcher;
import java.util.regex.Pattern;

/** What of LANGUAGE.md, and of the face that the document tells, can be seen by a look at the class and its text. */
public final class LanguageTest {
    private static final String PROGRAM = "src/main/java/HeapSquares.java";

    private static final Set<String> FACE = new TreeSet<>(List.of(
        "int heap(long)", "int drop()", "long set(int)", "int look(int,int)", "long code(int)",
        "long form(int,int,boolean)", "long cuts(int)", "int same(int,int)", "int turn(int,int,boolean)",
        "int grow(int,int)", "int put(int,int,int,int)", "int count(int,int)", "long list(int,int,int)",
        "int rank(int,int)", "int ground(long)", "int sort(int,int)", "int unsort()", "int first()", "int go()",
        "int all()", "int tries()", "int laid(int,int)", "int colour(int,int,int)", "int square(int)",
        "long strip(int,int)", "int lay(int)", "int tear()", "int row(int)", "int copy(int,int,int)",
        "int status(int)"));

    private static final List<String> CONSTANTS =
        List.of("NONE", "MISSING", "BEYOND", "BELOW", "COPY", "NO", "FULL", "SPENT");

    private static final String[] RULED_OUT = {
        "\\b(throw|throws|try|catch|finally|synchronized|assert|volatile|transient|native|strictfp)\\b",
        "\\b(import|package|extends|var|yield|sealed|permits|float|double|Object)\\b",
        "->", "::", "@", "\"", "\\bwhile \\(true\\)", "\\bfor \\(;", "\\bstatic \\{", "Exact\\b",
        "\\b(protected)\\b", "\\b(Long|Integer|Math)\\.[A-Z]", "\\bSystem\\.(?!arraycopy\\b)",
        "\\b(equals|hashCode|toString|clone)\\b",
    };

    private static int wrong = 0;

    public static void main(String[] args) throws Exception {
        lookAtFace();
        lookInside(HeapSquares.class);
        for (Class<?> inside : HeapSquares.class.getDeclaredClasses()) {
            check(Modifier.isStatic(inside.getModifiers()), inside + " isn't static");
            check(!Modifier.isPublic(inside.getModifiers()), inside + " is public");
            lookInside(inside);
        }
        check(HeapSquares.class.getDeclaredClasses().length < 12, "too many classes");
        lookAtText(withoutComments(Files.readString(Path.of(PROGRAM))));
        System.out.println(wrong == 0 ? "the language is kept to" : wrong + " places are out of the language");
        if (wrong != 0) {
            System.exit(1);
        }
    }

    private static void check(boolean holds, String what) {
        if (!holds) {
            wrong++;
            System.out.println(what);
        }
    }

    private static void lookAtFace() throws Exception {
        Class<HeapSquares> face = HeapSquares.class;
        check(face.getModifiers() == (Modifier.PUBLIC | Modifier.FINAL), "the class isn't public and final alone");
        Set<String> methods = new TreeSet<>();
        for (Method method : face.getDeclaredMethods()) {
            if (Modifier.isPublic(method.getModifiers())) {
                methods.add(told(method));
                check(!Modifier.isStatic(method.getModifiers()), method + " is static");
            } else {
                check(Modifier.isPrivate(method.getModifiers()), method + " is not private");
            }
        }
        check(methods.equals(FACE), "the face is " + methods);
        Constructor<?>[] constructors = face.getDeclaredConstructors();
        check(constructors.length == 1 && constructors[0].getParameterCount() == 0
            && Modifier.isPublic(constructors[0].getModifiers()), "the constructor isn't as told");
        for (Field field : face.getDeclaredFields()) {
            boolean told = CONSTANTS.contains(field.getName());
            check(told == Modifier.isPublic(field.getModifiers()), field + " is seen or not seen");
            check(told || Modifier.isPrivate(field.getModifiers()), field + " is not private");
        }
        for (int i = 0; i < CONSTANTS.size(); i++) {
            check(face.getField(CONSTANTS.get(i)).getInt(null) == -1 - i, CONSTANTS.get(i) + " isn't as told");
        }
    }

    private static String told(Method method) {
        StringBuilder told = new StringBuilder(method.getReturnType().getName());
        told.append(' ').append(method.getName()).append('(');
        Class<?>[] types = method.getParameterTypes();
        for (int i = 0; i < types.length; i++) {
            told.append(i > 0 ? "," : "").append(types[i].getName());
        }
        return told.append(')').toString();
    }

    private static void lookInside(Class<?> type) {
        int fields = 0;
        for (Field field : type.getDeclaredFields()) {
            check(!field.isSynthetic(), field + " is the compiler's");
            if (Modifier.isStatic(field.getModifiers())) {
                check(Modifier.isFinal(field.getModifiers()), field + " is static and not final");
            } else {
                fields++;
            }
        }
        check(fields <= 20, type + " has " + fields + " fields");
        for (Method method : type.getDeclaredMethods()) {
            boolean own = type == HeapSquares.class && Modifier.isPublic(method.getModifiers());
            boolean named = FACE.stream().anyMatch(call -> call.contains(" " + method.getName() + "("));
            check(own || !named, method + " bears the name of a public one");
            check(method.getParameterCount() <= 7, method + " takes more than seven parameters");
        }
    }

    private static String withoutComments(String text) {
        return Pattern.compile("/\\*.*?\\*/|//[^\n]*", Pattern.DOTALL).matcher(text)
            .replaceAll(found -> found.group().replaceAll("[^\n]", ""));
    }

    private static void lookAtText(String text) {
        for (String ruledOut : RULED_OUT) {
            Matcher found = Pattern.compile(ruledOut).matcher(text);
            while (found.find()) {
                long line = text.substring(0, found.start()).lines().count();
                check(false, "line " + line + " has " + found.group());
            }
        }
        lookAtLengths(text.split("\n", -1));
    }

    private static void lookAtLengths(String[] lines) {
        Pattern head = Pattern.compile("^( +)(public |private |static |final )*[\\w\\[\\]]+ ?\\w*\\([^;]*\\{$");
        for (int i = 0; i < lines.length; i++) {
            check(lines[i].length() <= 120, "line " + (i + 1) + " is long");
            Matcher found = head.matcher(lines[i]);
            if (found.find() && !lines[i].matches(" +(if|for|while|switch|return|else).*")) {
                String end = found.group(1) + "}";
                int length = Arrays.asList(lines).subList(i, lines.length).indexOf(end);
                check(length > 0 && length < 60, "line " + (i + 1) + " begins a method of " + length + " lines");
            }
        }
    }
}

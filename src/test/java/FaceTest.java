import java.io.IOException;
import java.lang.reflect.Constructor;
import java.lang.reflect.Field;
import java.lang.reflect.Method;
import java.lang.reflect.Modifier;
import java.nio.file.Files;
import java.nio.file.Path;
import java.util.ArrayList;
import java.util.Arrays;
import java.util.List;
import java.util.Set;
import java.util.TreeSet;
import java.util.regex.Matcher;
import java.util.regex.Pattern;

/** The public face, and the rules of the language that can be read off the class or its source. */
public final class FaceTest {
    private static final String SOURCE = "src/main/java/RulerFoot.java";
    private static final String[] FACE = {"feed(int)", "realm()", "fault()", "told(int)", "warped()", "nick(int)",
        "office(int,int)", "person(int,int)", "thing(int,int)", "hand(int)", "year(int)", "make(int,int)", "warp(int)",
        "plane()", "lose(boolean)", "hold(int)", "drop()", "shorten(int,int)", "drift(int)", "undo()",
        "longAt(int,int)", "firstShort(int)", "planeWhen(int,int)", "had(int)", "parts(int)", "fold(int)",
        "posts(int)", "toShorten(int,int)", "wasWarped(int,int,int)", "alike(int)", "hands(int)", "tens(int,int,int)",
        "lean(int,int,int)", "foundBy(int,int)", "see(int,int)", "rods(int)", "door()", "write(int,int)", "tear()",
        "judge()", "seed(int)", "keep(int)", "goBack(int)"};
    private static final String[] BANNED = {"\\bthrow\\b", "\\btry\\b", "\\bcatch\\b", "\\bsynchronized\\b",
        "\\bassert\\b", "->", "::", "Exact\\b", "\\bObject\\b", "\\bhashCode\\b", "\\btoString\\(\\) *\\{",
        "static\\s*\\{", "\\bprotected\\b", "\\bpackage\\b", "\\+ \"", "\" \\+"};
    /** Of the library, what LANGUAGE.md lists; of the functions over numbers, the likes of those that it names. */
    private static final String LIBRARY = "System\\.arraycopy|Arrays\\.(copyOf|copyOfRange|fill)"
        + "|(Math|Integer|Long)\\.(max|min|abs|compare|signum|bitCount|floorDiv|floorMod"
        + "|numberOf\\w+Zeros|\\w+OneBit|M.._VALUE)";

    public static void main(String[] args) throws IOException {
        constants();
        face();
        insides();
        String source = Files.readString(Path.of(SOURCE)).replaceAll("(?s)/\\*.*?\\*/", "").replaceAll("//.*", "");
        words(source);
        methodsAreShort(Files.readAllLines(Path.of(SOURCE)));
        Due.end();
    }

    private static void constants() {
        Due.due("NONE", -1, RulerFoot.NONE);
        Due.due("UNKNOWN", -1000000001, RulerFoot.UNKNOWN);
        Due.due("OUTSIDE", -1000000002, RulerFoot.OUTSIDE);
        Due.due("NOT", -1000000003, RulerFoot.NOT);
        Due.due("FULL", -1000000004, RulerFoot.FULL);
    }

    private static void holds(String what, boolean is) {
        Due.due(what, 1, is ? 1 : 0);
    }

    private static String signature(Method method) {
        List<String> kinds = new ArrayList<>();
        for (Class<?> kind : method.getParameterTypes()) {
            kinds.add(kind.getName());
        }
        return method.getName() + "(" + String.join(",", kinds) + ")";
    }

    private static void face() {
        Class<?> foot = RulerFoot.class;
        holds("public and final", Modifier.isPublic(foot.getModifiers()) && Modifier.isFinal(foot.getModifiers()));
        Set<String> open = new TreeSet<>();
        for (Method method : foot.getDeclaredMethods()) {
            if (!Modifier.isPrivate(method.getModifiers())) {
                open.add(signature(method));
                holds(method + " answers an int", method.getReturnType() == int.class);
                holds(method + " is public", Modifier.isPublic(method.getModifiers()));
                holds(method + " is of an object", !Modifier.isStatic(method.getModifiers()));
            }
        }
        Set<String> want = new TreeSet<>(Arrays.asList(FACE));
        holds("the face is " + want + ", not " + open, open.equals(want));
        Constructor<?>[] constructors = foot.getDeclaredConstructors();
        holds("one public constructor without arguments", constructors.length == 1
                && Modifier.isPublic(constructors[0].getModifiers()) && constructors[0].getParameterCount() == 0);
        int openFields = 0;
        for (Field field : foot.getDeclaredFields()) {
            openFields += Modifier.isPrivate(field.getModifiers()) ? 0 : 1;
            holds(field + " is final if static", !Modifier.isStatic(field.getModifiers())
                    || Modifier.isFinal(field.getModifiers()));
        }
        Due.due("open fields", 5, openFields);
    }

    private static void insides() {
        Set<String> names = new TreeSet<>();
        for (String call : FACE) {
            names.add(call.substring(0, call.indexOf('(')));
        }
        Class<?>[] classes = RulerFoot.class.getDeclaredClasses();
        holds("twelve classes at most", classes.length + 1 <= 12);
        for (Method method : RulerFoot.class.getDeclaredMethods()) {
            holds(method + " has a name of its own",
                    !Modifier.isPrivate(method.getModifiers()) || !names.contains(method.getName()));
        }
        for (Class<?> inside : classes) {
            holds(inside + " is static", Modifier.isStatic(inside.getModifiers()));
            holds(inside + " is not open", !Modifier.isPublic(inside.getModifiers())
                    && !Modifier.isProtected(inside.getModifiers()));
            for (Method method : inside.getDeclaredMethods()) {
                holds(method + " has a name of its own",
                        !Modifier.isPrivate(method.getModifiers()) || !names.contains(method.getName()));
                holds(method + " takes seven at most", method.getParameterCount() <= 7);
            }
        }
    }

    private static void words(String source) {
        // The arrow of a switch is none of a lambda.
        String plain = source.replaceAll("(case [^:;>]*|default *)->", "$1");
        for (String banned : BANNED) {
            holds("no " + banned, !Pattern.compile(banned).matcher(plain).find());
        }
        Matcher imports = Pattern.compile("import .*").matcher(source);
        while (imports.find()) {
            holds(imports.group(), imports.group().matches("import java\\.util\\.(Arrays|ArrayList|List|Iterator);"));
        }
        Matcher uses = Pattern.compile("\\b(Math|System|Arrays|String|Integer|Long)\\.\\w+").matcher(source);
        while (uses.find()) {
            holds(uses.group(), uses.group().matches(LIBRARY));
        }
    }

    private static void methodsAreShort(List<String> lines) {
        Pattern head = Pattern.compile("( {4}| {8})(public |private |static |final )*\\w+(\\[\\])? ?\\w*\\(.*\\{");
        for (int i = 0; i < lines.size(); i++) {
            Matcher matcher = head.matcher(lines.get(i));
            if (matcher.matches()) {
                int end = i + 1;
                while (end < lines.size() && !lines.get(end).equals(matcher.group(1) + "}")) {
                    end++;
                }
                holds(lines.get(i).trim() + " has sixty lines at most", end - i < 60);
            }
        }
    }
}

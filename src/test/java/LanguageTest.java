import java.io.IOException;
import java.lang.reflect.Constructor;
import java.lang.reflect.Field;
import java.lang.reflect.Method;
import java.lang.reflect.Modifier;
import java.nio.file.Files;
import java.nio.file.Path;
import java.util.ArrayList;
import java.util.HashSet;
import java.util.List;
import java.util.Set;

/** The face of the class, and those rules of ../shared/LANGUAGE.md that can be seen from outside. */
public final class LanguageTest {
    private static final Due DUE = new Due("LanguageTest");
    private static final String[] FACE = {
        "int feed(long,long,long)", "int net()", "int rest()", "int knot(int,int)", "int person(int,int)",
        "int shift(int,int)", "int hour()", "int rouse(int)", "boolean lie(int,int)", "int tie(int,int)",
        "boolean undo()", "int judged(int)", "int later(int,int)", "int falls(int)", "int sleeps(int)",
        "int still()", "int meet(int,int)", "int crowd()", "int reach(int)", "int far(int,int)",
        "int walks(int,int,int)", "int rings()", "int ends()", "int trails()", "int firms(int)", "int goal(int,int)",
        "int doze(int)", "int tiles(int)", "int held()", "int stands()", "int largest()", "int whole()",
        "int sure()", "int opposed(int)", "int defends(int)", "int tug(int,int)", "int pull(int)",
        "boolean see(int,int,int,boolean)", "int wills(int)", "int ask()", "int chance(int,int,int)",
        "int rests(int,int,int,int)", "int seasons(int,int,int)", "boolean mark(int,boolean)", "int count(int)"};
    private static final String[] FORBIDDEN = {"->", "::", "static {", "synchronized", "assert ", "finally", "catch",
        "instanceof", "System.out", "null", " var ", "record ", "Exact("};

    private static final int MOST_LINES = 60;

    private LanguageTest() {
    }

    public static void main(String[] args) throws IOException {
        face();
        members();
        inside();
        source();
        DUE.end();
    }

    private static String told(Method method) {
        StringBuilder text = new StringBuilder();
        text.append(method.getReturnType()).append(' ').append(method.getName()).append('(');
        for (Class<?> type : method.getParameterTypes()) {
            text.append(text.charAt(text.length() - 1) == '(' ? "" : ",").append(type);
        }
        return text.append(')').toString();
    }

    private static void face() {
        List<String> found = new ArrayList<>();
        Set<String> names = new HashSet<>();
        for (Method method : HammockNet.class.getDeclaredMethods()) {
            if (Modifier.isPublic(method.getModifiers())) {
                found.add(told(method));
                names.add(method.getName());
                DUE.is(method + " is static", Modifier.isStatic(method.getModifiers()), false);
                DUE.is(method + " throws", method.getExceptionTypes().length, method.getName().equals("rests") ? 1 : 0);
            }
        }
        for (String method : FACE) {
            DUE.is("the face has " + method, found.contains(method), true);
        }
        DUE.is("methods of the face", found.size(), FACE.length);
        for (Method method : HammockNet.class.getDeclaredMethods()) {
            boolean shadows = Modifier.isPrivate(method.getModifiers()) && names.contains(method.getName());
            DUE.is(method + " bears a public name", shadows, false);
        }
        DUE.is("public and final", HammockNet.class.getModifiers(), Modifier.PUBLIC | Modifier.FINAL);
    }

    private static void members() {
        for (Method method : HammockNet.class.getDeclaredMethods()) {
            DUE.is(method + " is public or private", (method.getModifiers() & (Modifier.PUBLIC | Modifier.PRIVATE)) != 0, true);
        }
        for (Field field : HammockNet.class.getDeclaredFields()) {
            boolean isNone = field.getName().equals("NONE") && Modifier.isPublic(field.getModifiers());
            DUE.is(field + " is private", isNone || Modifier.isPrivate(field.getModifiers()), true);
            DUE.is(field + ", static, is final", !Modifier.isStatic(field.getModifiers())
                    || Modifier.isFinal(field.getModifiers()), true);
        }
        Constructor<?>[] constructors = HammockNet.class.getDeclaredConstructors();
        DUE.is("constructors", constructors.length, 1);
        DUE.is("of no parameters", constructors[0].getParameterCount(), 0);
        DUE.is("public", Modifier.isPublic(constructors[0].getModifiers()), true);
    }

    private static void inside() {
        Class<?>[] classes = HammockNet.class.getDeclaredClasses();
        DUE.is("some twelve classes", classes.length < 12, true);
        for (Class<?> each : classes) {
            DUE.is(each + " is private", Modifier.isPrivate(each.getModifiers()), true);
            DUE.is(each + " is static", Modifier.isStatic(each.getModifiers()), true);
            int fields = 0;
            for (Field field : each.getDeclaredFields()) {
                boolean isStatic = Modifier.isStatic(field.getModifiers());
                fields += isStatic ? 0 : 1;
                DUE.is(field + ", static, is final", !isStatic || Modifier.isFinal(field.getModifiers()), true);
            }
            DUE.is(each + " has some twenty fields", fields <= 20, true);
            for (Method method : each.getDeclaredMethods()) {
                DUE.is(method + " has seven parameters at most", method.getParameterCount() <= 7, true);
            }
        }
    }

    private static void source() throws IOException {
        List<String> lines = Files.readAllLines(Path.of("src/main/java/HammockNet.java"));
        int imports = 0;
        for (int i = 0; i < lines.size(); i++) {
            String line = lines.get(i);
            imports += line.startsWith("import ") ? 1 : 0;
            for (String word : FORBIDDEN) {
                DUE.is("line " + (i + 1) + " has " + word, line.contains(word), false);
            }
            for (char each : line.toCharArray()) {
                DUE.is("line " + (i + 1) + " has plain signs", each >= ' ' && each <= '~', true);
            }
            if (line.matches("(    |        )[a-zA-Z].*\\).* ?\\{")) {
                DUE.is("the method of line " + (i + 1) + " is short", lengthFrom(lines, i) <= MOST_LINES, true);
            }
        }
        DUE.is("imports", imports, 1);
    }

    /** Up to the bracket that stands as far in as the head does. */
    private static int lengthFrom(List<String> lines, int head) {
        String line = lines.get(head);
        String end = line.substring(0, line.length() - line.stripLeading().length()) + "}";
        int at = head;
        while (at < lines.size() && !lines.get(at).equals(end)) {
            at++;
        }
        return at - head + 1;
    }
}

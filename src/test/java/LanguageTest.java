import java.io.IOException;
import java.lang.reflect.Constructor;
import java.lang.reflect.Field;
import java.lang.reflect.Method;
import java.lang.reflect.Modifier;
import java.nio.file.Files;
import java.nio.file.Path;
import java.util.ArrayList;
import java.util.HashSet;
import java.util.List;
import java.util.Set;
import java.util.regex.Matcher;
import java.util.regex.Pattern;
import java.util.stream.Stream;

/** The face of the class, and those rules of ../shared/LANGUAGE.md that can be seen from outside. */
public final class LanguageTest {
    private static final Due DUE = new Due("LanguageTest");
    private static final String[] FACE = {
        "int feed(long,long,long)", "int net()", "int rest()", "int knot(int,int)", "int person(int,int)",
        "int shift(int,int)", "int hour()", "int rouse(int)", "boolean lie(int,int)", "int tie(int,int)",
        "boolean undo()", "int judged(int)", "int later(int,int)", "int falls(int)", "int sleeps(int)",
        "int still()", "int meet(int,int)", "int crowd()", "int reach(int)", "int far(int,int)",
        "int walks(int,int,int)", "int rings()", "int ends()", "int trails()", "int firms(int)", "int goal(int,int)",
        "int doze(int)", "int tiles(int)", "int held()", "int stands()", "int largest()", "int whole()",
        "int sure()", "int opposed(int)", "int defends(int)", "int tug(int,int)", "int pull(int)",
        "boolean see(int,int,int,boolean)", "int wills(int)", "int ask()", "int chance(int,int,int)",
        "int rests(int,int,int,int)", "int seasons(int,int,int)", "boolean mark(int,boolean)", "int count(int)"};
    private static final String[] FORBIDDEN = {"->", "::", "static {", "synchronized", "assert ", "finally", "catch",
        "instanceof", "System.out", "null", " var ", "record ", "Exact("};

    private static final Set<String> LIBRARY = Set.of("String", "StringBuilder", "Integer", "Long", "Math", "System", "Arrays",
        "ArrayList", "List", "Iterator", "Iterable", "Comparable", "NoSuchElementException");
    private static final Set<String> FUNCTIONS = Set.of("System.arraycopy", "Arrays.copyOf", "Arrays.copyOfRange",
        "Arrays.fill", "Math.max", "Math.min", "Math.abs", "Math.floorDiv", "Math.floorMod", "Integer.bitCount",
        "Integer.compare", "Integer.max", "Integer.min", "Long.compare", "Long.max", "Long.min", "List.of");
    private static final int MOST_LINES = 60;

    private LanguageTest() {
    }

    public static void main(String[] args) throws IOException {
        face();
        members();
        inside();
        source();
        library();
        textsAndThrows();
        oneFile();
        DUE.end();
    }

    private static String told(Method method) {
        StringBuilder text = new StringBuilder();
        text.append(method.getReturnType()).append(' ').append(method.getName()).append('(');
        for (Class<?> type : method.getParameterTypes()) {
            text.append(text.charAt(text.length() - 1) == '(' ? "" : ",").append(type);
        }
        return text.append(')').toString();
    }

    private static void face() {
        List<String> found = new ArrayList<>();
        Set<String> names = new HashSet<>();
        for (Method method : HammockNet.class.getDeclaredMethods()) {
            if (Modifier.isPublic(method.getModifiers())) {
                found.add(told(method));
                names.add(method.getName());
                DUE.is(method + " is static", Modifier.isStatic(method.getModifiers()), false);
                DUE.is(method + " throws", method.getExceptionTypes().length, method.getName().equals("rests") ? 1 : 0);
            }
        }
        for (String method : FACE) {
            DUE.is("the face has " + method, found.contains(method), true);
        }
        DUE.is("methods of the face", found.size(), FACE.length);
        for (Method method : HammockNet.class.getDeclaredMethods()) {
            boolean shadows = Modifier.isPrivate(method.getModifiers()) && names.contains(method.getName());
            DUE.is(method + " bears a public name", shadows, false);
        }
        DUE.is("public and final", HammockNet.class.getModifiers(), Modifier.PUBLIC | Modifier.FINAL);
    }

    private static void members() {
        for (Method method : HammockNet.class.getDeclaredMethods()) {
            DUE.is(method + " is public or private", (method.getModifiers() & (Modifier.PUBLIC | Modifier.PRIVATE)) != 0, true);
        }
        int fields = 0;
        for (Field field : HammockNet.class.getDeclaredFields()) {
            fields += Modifier.isStatic(field.getModifiers()) ? 0 : 1;
            boolean isNone = field.getName().equals("NONE") && Modifier.isPublic(field.getModifiers());
            DUE.is(field + " is private", isNone || Modifier.isPrivate(field.getModifiers()), true);
            DUE.is(field + ", static, is final", !Modifier.isStatic(field.getModifiers())
                    || Modifier.isFinal(field.getModifiers()), true);
        }
        DUE.is("some twenty fields", fields <= 20, true);
        Constructor<?>[] constructors = HammockNet.class.getDeclaredConstructors();
        DUE.is("constructors", constructors.length, 1);
        DUE.is("of no parameters", constructors[0].getParameterCount(), 0);
        DUE.is("public", Modifier.isPublic(constructors[0].getModifiers()), true);
    }

    private static void inside() {
        Class<?>[] classes = HammockNet.class.getDeclaredClasses();
        DUE.is("some twelve classes", classes.length < 12, true);
        for (Class<?> each : classes) {
            DUE.is(each + " is private", Modifier.isPrivate(each.getModifiers()), true);
            DUE.is(each + " is static", Modifier.isStatic(each.getModifiers()), true);
            int fields = 0;
            for (Field field : each.getDeclaredFields()) {
                boolean isStatic = Modifier.isStatic(field.getModifiers());
                fields += isStatic ? 0 : 1;
                DUE.is(field + ", static, is final", !isStatic || Modifier.isFinal(field.getModifiers()), true);
            }
            DUE.is(each + " has some twenty fields", fields <= 20, true);
            for (Method method : each.getDeclaredMethods()) {
                DUE.is(method + " has seven parameters at most", method.getParameterCount() <= 7, true);
            }
        }
    }

    private static void source() throws IOException {
        List<String> lines = Files.readAllLines(Path.of("src/main/java/HammockNet.java"));
        int imports = 0;
        for (int i = 0; i < lines.size(); i++) {
            String line = lines.get(i);
            imports += line.startsWith("import ") ? 1 : 0;
            for (String word : FORBIDDEN) {
                DUE.is("line " + (i + 1) + " has " + word, line.contains(word), false);
            }
            for (char each : line.toCharArray()) {
                DUE.is("line " + (i + 1) + " has plain signs", each >= ' ' && each <= '~', true);
            }
            if (line.matches("(    |        )[a-zA-Z].*\\).* ?\\{")) {
                DUE.is("the method of line " + (i + 1) + " is short", lengthFrom(lines, i) <= MOST_LINES, true);
            }
        }
        DUE.is("imports", imports, 1);
    }

    private static String codeWithTexts() throws IOException {
        String all = Files.readString(Path.of("src/main/java/HammockNet.java"));
        return all.replaceAll("(?s)/\\*.*?\\*/|//[^\n]*", " ").replaceAll("import [^;]*;", " ");
    }

    /** Each name with a capital and small letters is that of a class of its own or of rule 4's library. */
    private static void library() throws IOException {
        Set<String> own = new HashSet<>(Set.of("HammockNet"));
        for (Class<?> each : HammockNet.class.getDeclaredClasses()) {
            own.add(each.getSimpleName());
        }
        String code = codeWithTexts().replaceAll("\"[^\"\n]*\"|'[^']*'", " ");
        Matcher name = Pattern.compile("\\b([A-Z][A-Za-z]*[a-z][A-Za-z]*)\\b(\\.[a-z]\\w*)?").matcher(code);
        int found = 0;
        while (name.find()) {
            found++;
            String type = name.group(1);
            DUE.is("there is " + type, own.contains(type) || LIBRARY.contains(type), true);
            if (LIBRARY.contains(type) && name.group(2) != null) {
                DUE.is("the library has " + name.group(), FUNCTIONS.contains(name.group()), true);
            }
        }
        DUE.is("names were found", found > 100, true);
    }

    private static void textsAndThrows() throws IOException {
        String code = codeWithTexts();
        DUE.is("a text is joined by +", Pattern.compile("\\+ *\"|\" *\\+").matcher(code).find(), false);
        Matcher thrown = Pattern.compile("\\bthrow\\b[^;]*").matcher(code);
        int found = 0;
        while (thrown.find()) {
            found++;
            DUE.is(thrown.group(), thrown.group().matches("throw new NoSuchElementException\\(\"[a-z ]*\"\\)"), true);
        }
        DUE.is("throws were found", found > 0, true);
    }

    private static void oneFile() throws IOException {
        try (Stream<Path> files = Files.walk(Path.of("src/main"))) {
            DUE.is("files of the program", files.filter(Files::isRegularFile).count(), 1);
        }
    }

    /** Up to the bracket that stands as far in as the head does. */
    private static int lengthFrom(List<String> lines, int head) {
        String line = lines.get(head);
        String end = line.substring(0, line.length() - line.stripLeading().length()) + "}";
        int at = head;
        while (at < lines.size() && !lines.get(at).equals(end)) {
            at++;
        }
        return at - head + 1;
    }
}

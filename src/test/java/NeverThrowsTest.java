import java.lang.reflect.InvocationTargetException;
import java.lang.reflect.Method;
import java.lang.reflect.Modifier;
import java.util.ArrayList;
import java.util.Arrays;
import java.util.Comparator;
import java.util.List;
import java.util.NoSuchElementException;
import java.util.Random;

/** Any calls, in any state, with any arguments: nothing is thrown but what the document names. */
public final class NeverThrowsTest {
    private static final Due DUE = new Due("NeverThrowsTest");
    private static final int OBJECTS = 400;
    private static final int CALLS = 512;
    private static final int[] EDGES = {Integer.MIN_VALUE, -2, -1, 0, 1, 4, 8, 9, 10, 16, 30, 31, 32, 60, 61, 99, 100,
        9999, 10000, Integer.MAX_VALUE};
    private static final String[] PIECES = {"knot ", "holds ", "string ", "against ", "person ", "will ", "at ",
        "lulls ", "hour ", "shift ", "rouse ", "lie ", "tie ", "plain ", "firm ", "slip ", "dent ", "not ", "and ",
        "or ", "hold ", "mind ", "many ", "others ", "a ", "b ", "c ", "p ", "q ", "; ", ";", "(", ")", "< ", "= ",
        "+ ", "- ", "* ", "0 ", "1 ", "9 ", "20 ", "40 ", "9999 ", "12345 ", "abcdefghi ", "\n", "A", "~", "\u00e9"};
    private static final String NET = "knot a plain holds 9; knot b slip holds 3; knot c dent holds 4; string a b;"
            + "string b c; string c a; string a c; against a b; against b c; person p will 40 at a;"
            + "person q will 9 at c; lulls (hold - mind) * many + others;";

    private NeverThrowsTest() {
    }

    public static void main(String[] args) throws IllegalAccessException {
        List<Method> face = new ArrayList<>();
        for (Method method : HammockNet.class.getDeclaredMethods()) {
            if (Modifier.isPublic(method.getModifiers())) {
                face.add(method);
            }
        }
        // reflection tells no order, and the same runs shall come again
        face.sort(Comparator.comparing(Method::getName));
        Random random = new Random(20261118);
        for (int i = 0; i < OBJECTS; i++) {
            HammockNet net = i % 2 == 0 ? new HammockNet() : Due.net(NET);
            for (int call = 0; call < CALLS; call++) {
                call(net, face.get(random.nextInt(face.size())), random);
            }
        }
        DUE.end();
    }

    private static void call(HammockNet net, Method method, Random random) throws IllegalAccessException {
        if (method.getName().equals("feed") && random.nextInt(4) > 0) {
            Due.feed(net, text(random));
            return;
        }
        Class<?>[] types = method.getParameterTypes();
        Object[] arguments = new Object[types.length];
        for (int i = 0; i < types.length; i++) {
            arguments[i] = argument(types[i], random);
        }
        String thrown = "nothing";
        try {
            method.invoke(net, arguments);
        } catch (InvocationTargetException e) {
            boolean named = method.getName().equals("rests") && e.getCause() instanceof NoSuchElementException;
            thrown = named ? thrown : e.getCause().toString();
        }
        DUE.is(method.getName() + Arrays.toString(arguments) + " throws " + thrown, thrown.equals("nothing"), true);
    }

    private static Object argument(Class<?> type, Random random) {
        if (type == long.class) {
            return random.nextLong();
        }
        if (type == boolean.class) {
            return random.nextBoolean();
        }
        return random.nextInt(3) > 0 ? random.nextInt(4) : EDGES[random.nextInt(EDGES.length)];
    }

    private static String text(Random random) {
        StringBuilder text = new StringBuilder();
        if (random.nextBoolean()) {
            text.append(NET);
        }
        int pieces = random.nextInt(8) == 0 ? 400 : random.nextInt(30);
        for (int i = 0; i < pieces; i++) {
            text.append(PIECES[random.nextInt(PIECES.length)]);
        }
        return text.toString();
    }
}

import java.lang.reflect.InvocationTargetException;
import java.lang.reflect.Method;
import java.lang.reflect.Modifier;
import java.util.ArrayList;
import java.util.Arrays;
import java.util.Comparator;
import java.util.List;
import java.util.Random;

/** Runs at random: each call's answer is that of Model, which reads the document by itself. */
public final class ModelTest {
    private static final Due DUE = new Due("ModelTest");
    private static final int RUNS = 400;
    /** A text takes 44 calls at most, and 512 are promised. */
    private static final int CALLS = 460;
    private static final String[] KINDS = {"plain", "firm", "slip", "slip", "dent"};
    private static final String[] FACTS = {"hold", "mind", "many", "others"};
    private static final String[] TOKENS = {"knot", "holds", "string", "against", "person", "will", "at", "lulls", "hour",
        "shift", "rouse", "lie", "tie", "plain", "slip", "not", "and", "or", "hold", "mind", "a", "b", "h", "p", "q", "z", ";",
        ";", "(", ")", "<", "=", "+", "-", "*", "0", "1", "9", "20", "21", "40", "41", "12345", "abcdefghi", "A", ""};
    private static final int[] EDGES = {Integer.MIN_VALUE, -2, -1, 0, 1, 2, 3, 4, 5, 6, 7, 8, 9, 10, 11, 30, 31, 59, 60, 61, 98,
        99, 100, 9999, 10000, Integer.MAX_VALUE};

    private final Random random;
    private final HammockNet net = new HammockNet();
    private final Model model = new Model();
    private final StringBuilder story = new StringBuilder();
    private int calls;

    private ModelTest(int seed) {
        random = new Random(seed);
    }

    public static void main(String[] args) throws IllegalAccessException, NoSuchMethodException {
        List<Method> face = new ArrayList<>();
        for (Method method : HammockNet.class.getDeclaredMethods()) {
            if (Modifier.isPublic(method.getModifiers())) {
                face.add(method);
            }
        }
        face.sort(Comparator.comparing(Method::getName));
        int runs = args.length > 0 ? Integer.parseInt(args[0]) : RUNS;
        for (int seed = 0; seed < runs; seed++) {
            new ModelTest(seed).run(face);
        }
        DUE.end();
    }

    private void run(List<Method> face) throws IllegalAccessException, NoSuchMethodException {
        if (random.nextInt(20) > 0) {
            tell("net", whole(netText()));
        }
        while (calls < CALLS) {
            int kind = random.nextInt(100);
            if (kind == 0) {
                tell("net", changed(netText()));
            } else if (kind < 4) {
                tell("rest", whole(restText()));
            } else if (kind == 4) {
                tell("rest", changed(restText()));
            } else {
                callOther(face.get(random.nextInt(face.size())));
            }
        }
    }

    /** An empty tape is a net of nothing, of which there is little to tell: such are read but seldom. */
    private void callOther(Method method) throws IllegalAccessException, NoSuchMethodException {
        boolean reads = method.getName().equals("net") || method.getName().equals("rest");
        if (!reads || model.count(10) > 0 || random.nextInt(40) == 0) {
            call(method);
        }
    }

    private void tell(String reads, String text) {
        if (model.count(10) > 0 && random.nextInt(4) > 0) {
            DUE.is("rest of what was fed at random", net.rest(), model.rest());
            calls++;
        }
        StringBuilder tape = new StringBuilder(text);
        int length = Due.feed(net, text);
        calls += (text.length() + 23) / 24 + 2;
        while (tape.length() > 0) {
            long[] bytes = new long[3];
            for (int i = 0; i < 24 && tape.length() > 0; i++) {
                bytes[i / 8] |= (long) tape.charAt(0) << 56 - 8 * (i % 8);
                tape.deleteCharAt(0);
            }
            model.feed(bytes[0], bytes[1], bytes[2]);
        }
        story.append("; fed ").append(text);
        DUE.is("length of " + text, length, model.count(10));
        boolean asNet = reads.equals("net");
        DUE.is(reads + " of " + text, asNet ? net.net() : net.rest(), asNet ? model.net() : model.rest());
    }

    private static Object answer(Object object, Method method, Object[] arguments) throws IllegalAccessException {
        try {
            return method.invoke(object, arguments);
        } catch (InvocationTargetException e) {
            return e.getCause().getClass().getName();
        }
    }

    private void call(Method method) throws IllegalAccessException, NoSuchMethodException {
        Class<?>[] types = method.getParameterTypes();
        Object[] arguments = new Object[types.length];
        for (int i = 0; i < types.length; i++) {
            arguments[i] = argument(types[i], method.getName(), i);
        }
        calls++;
        Object got = answer(net, method, arguments);
        Object due = answer(model, Model.class.getMethod(method.getName(), types), arguments);
        String call = method.getName() + Arrays.toString(arguments);
        story.append("; ").append(call).append(" = ").append(due);
        DUE.is(call + " is " + got + ", and by the model " + due + (got.equals(due) ? "" : " behind " + story), got.equals(due), true);
    }

    private Object argument(Class<?> type, String name, int place) {
        if (type == long.class) {
            return random.nextInt(4) == 0 ? random.nextLong() : 0;
        }
        if (type == boolean.class) {
            return random.nextBoolean();
        }
        if (random.nextInt(25) == 0) {
            return EDGES[random.nextInt(EDGES.length)];
        }
        switch (name + place) {
            case "seasons0":
                return random.nextInt(10000);
            case "seasons1":
            case "later1":
                return random.nextInt(70);
            case "see2":
                return random.nextInt(4) == 0 ? random.nextInt(32) : random.nextInt(5);
            case "see0":
                return random.nextInt(10) == 0 ? 1 : 0;
            case "chance1":
                return 1 + random.nextInt(6);
            case "chance2":
            case "count0":
            case "walks2":
                return random.nextInt(11);
            default:
                return random.nextInt(name.equals("rests") ? 10 : 5);
        }
    }

    private String netText() {
        StringBuilder text = new StringBuilder();
        int knots = 1 + random.nextInt(8);
        int highest = 1 + random.nextInt(20);
        for (int i = 0; i < knots; i++) {
            text.append(" knot ").append(knot(i)).append(' ').append(KINDS[random.nextInt(5)]).append(" holds ")
                    .append(random.nextInt(highest + 1)).append(" ;");
        }
        pairs(text, "string", knots, random.nextInt(17));
        pairs(text, "against", knots, random.nextInt(13));
        int persons = random.nextInt(5);
        for (int i = 0; i < persons; i++) {
            text.append(" person ").append((char) ('p' + i)).append(" will ").append(random.nextInt(41)).append(" at ")
                    .append(knot(random.nextInt(knots))).append(" ;");
        }
        if (random.nextInt(3) > 0) {
            text.append(" lulls ").append(law(0)).append(" ;");
        }
        return text.toString();
    }

    private static char knot(int number) {
        return (char) ('a' + number);
    }

    private void pairs(StringBuilder text, String word, int knots, int many) {
        boolean[] there = new boolean[64];
        for (int i = 0; i < many; i++) {
            int first = random.nextInt(knots);
            int second = random.nextInt(knots);
            if (first != second && !there[first * 8 + second]) {
                there[first * 8 + second] = true;
                text.append(' ').append(word).append(' ').append(knot(first)).append(' ').append(knot(second)).append(" ;");
            }
        }
    }

    private String law(int deep) {
        int kind = random.nextInt(deep > 6 ? 2 : 10);
        if (kind == 0) {
            return FACTS[random.nextInt(4)];
        }
        if (kind == 1) {
            return "" + random.nextInt(random.nextInt(4) == 0 ? 10000 : 12);
        }
        if (kind == 2) {
            return "not " + law(deep + 1);
        }
        if (kind == 3) {
            return "( " + law(deep + 1) + " )";
        }
        String[] joins = {"+", "-", "*", "+", "and", "or", "<", "="};
        return law(deep + 2) + " " + joins[random.nextInt(joins.length)] + " " + law(deep + 2);
    }

    private String restText() {
        StringBuilder text = new StringBuilder();
        int lines = random.nextInt(42);
        for (int i = 0; i < lines; i++) {
            String person = "" + (char) ('p' + random.nextInt(2));
            char knot = knot(random.nextInt(3));
            String[] acts = {"hour ;", "shift " + person + " " + knot + " ;", "rouse " + person + " ;",
                "lie " + person + " " + knot + " ;", "tie " + knot + " " + knot(random.nextInt(3)) + " ;"};
            text.append(' ').append(acts[random.nextInt(acts.length)]);
        }
        return text.toString();
    }

    /** As it is, but with as few blanks as can be, or with other ones. */
    private String whole(String text) {
        int kind = random.nextInt(4);
        if (kind == 0) {
            return text.replaceAll(" ([^a-z0-9]) ?", "$1").replaceAll("([0-9]) (?=[a-z])", "$1");
        }
        return kind == 1 ? text.replace(" ", "\n  ") : text;
    }

    /** With a token more, or less, or another one. */
    private String changed(String text) {
        String[] tokens = text.split(" ");
        int at = random.nextInt(tokens.length);
        String other = TOKENS[random.nextInt(TOKENS.length)];
        tokens[at] = random.nextBoolean() ? other : tokens[at] + " " + other;
        return String.join(" ", tokens);
    }
}

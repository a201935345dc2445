import java.lang.reflect.Method;
import java.lang.reflect.Modifier;
import java.util.ArrayList;
import java.util.Comparator;
import java.util.List;
import java.util.Random;

/** Any calls with any arguments: none throws, the same calls answer the same, images have all. */
public final class AnyCallsTest {
    private static final int[] EDGES = {Integer.MIN_VALUE, Integer.MAX_VALUE, -3, -2, -1, 0, 1, 2, 3, 9, 10, 20, 99, 100, 127, 128};
    private static final String[] TEXTS = {PromisesTest.TOWN, PromisesTest.EVENING, PromisesTest.BOOK, PromisesTest.LIST,
        "even 0 0 0 20;".repeat(9), "follow 0 1 1;follow 1 0 9;even 1 1 9 9;last 2 2 9 9;cold 99;", "", "talk;",
        "drive 0;ladle 9;drive 1;ladle 9;drive 0;ladle 1;", "night 99 0;night 99 99;".repeat(5),
        "shoe 5;foot 5 9;hide 9 9 20;hide 1 1 1;".repeat(6), "\u0000\u00ff;", "even 1 1"};
    // without FAULTS
    private static final String[][] OF_SORTS = {
        {PromisesTest.TOWN, "even 0 0 0 20;".repeat(9), "follow 0 1 1;follow 1 0 9;even 1 1 9 9;last 2 2 9 9;cold 99;", "",
            "home 5 5;crowded 3 3 0 9;empty 7 3 2 9;last 5 9 1 8;soup 20;talk 3;pace 1;"},
        {PromisesTest.EVENING, "drive 0;ladle 9;drive 1;ladle 9;drive 0;ladle 1;", "", "talk;", "wait 60;return;drive 2;talk;"},
        {PromisesTest.BOOK, "night 99 0;night 99 99;".repeat(5), "", "night 5 0;asked bags 7;night 9 3;asked socks 3;"},
        {PromisesTest.LIST, "shoe 5;foot 5 9;hide 9 9 20;hide 1 1 1;".repeat(4), "", "foot 4 7;shoe 5;hide 0 2 1;foot 5 8;"}};

    public static void main(String[] args) throws Exception {
        List<Method> calls = new ArrayList<>();
        for (Method m : SoupNine.class.getDeclaredMethods()) {
            if (Modifier.isPublic(m.getModifiers())) {
                calls.add(m);
            }
        }
        calls.sort(Comparator.comparing(Method::getName));
        Due.is("the face's methods", calls.size(), 41 - 1);
        for (int seed = 0; seed < 400; seed++) {
            List<Long> once = run(calls, seed);
            List<Long> twice = run(calls, seed);
            Due.is("the same calls answer the same", once.equals(twice), true);
            imagesHaveAll(calls, seed);
        }
        for (int seed = 0; seed < 200; seed++) {
            secondOnesAnswerAlike(calls, seed);
        }
        Due.finish("AnyCallsTest");
    }

    private static List<Long> run(List<Method> calls, int seed) throws Exception {
        Random random = new Random(seed);
        SoupNine x = new SoupNine();
        List<Long> answers = new ArrayList<>();
        for (int i = 0; i < 300; i++) {
            if (random.nextInt(6) == 0) {
                String text = TEXTS[random.nextInt(TEXTS.length)];
                answers.add((long) Due.tell(x, random.nextInt(4), random.nextInt(3) - 1, text));
            } else {
                answers.add(ask(x, calls.get(random.nextInt(calls.size())), random));
            }
        }
        return answers;
    }

    private static Object[] arguments(Method call, Random random) {
        Object[] arguments = new Object[call.getParameterCount()];
        for (int i = 0; i < arguments.length; i++) {
            if (call.getParameterTypes()[i] == boolean.class) {
                arguments[i] = random.nextBoolean();
            } else {
                int by = random.nextInt(10);
                arguments[i] = by < 5 ? random.nextInt(3) : by < 8 ? random.nextInt(80) - 3
                        : by < 9 ? EDGES[random.nextInt(EDGES.length)] : random.nextInt();
            }
        }
        return arguments;
    }

    private static long ask(SoupNine x, Method call, Random random) throws Exception {
        return ask(x, call, arguments(call, random));
    }

    private static long ask(SoupNine x, Method call, Object[] arguments) throws Exception {
        Object answer = call.invoke(x, arguments);
        return answer instanceof Boolean ? ((Boolean) answer ? 1 : 0) : ((Number) answer).longValue();
    }

    // how many of a call's first arguments are places of what was told
    private static int places(String name) {
        if (List.of("till", "state", "lot", "like").contains(name)) {
            return 2;
        }
        boolean of = List.of("town", "deed", "give", "mean", "safe", "way", "round", "talks", "lost", "book", "held", "bring", "span",
                "list", "shod", "look", "drawn", "tells", "depot", "vans", "trail", "chat", "lack").contains(name);
        return of ? 1 : 0;
    }

    // what stands in the second place answers as it would in the first, and so does the one ahead of it
    private static void secondOnesAnswerAlike(List<Method> calls, int seed) throws Exception {
        Random random = new Random(seed);
        SoupNine[] alone = {new SoupNine(), new SoupNine()};
        SoupNine both = new SoupNine();
        for (int sort = 0; sort < 4; sort++) {
            for (int k = 0; k < 2; k++) {
                String text = OF_SORTS[sort][(seed + k) % OF_SORTS[sort].length];
                Due.is("text of " + text, Due.tell(alone[k], sort, -1, text), 0);
                Due.is("text of " + text, Due.tell(both, sort, -1, text), k);
            }
        }
        for (int i = 0; i < 200; i++) {
            Method call = calls.get(random.nextInt(calls.size()));
            int many = places(call.getName());
            if (many > 0) {
                int k = random.nextInt(2);
                Object[] arguments = arguments(call, random);
                Object[] other = arguments.clone();
                for (int j = 0; j < many; j++) {
                    arguments[j] = 0;
                    other[j] = k;
                }
                Due.is(call.getName() + " in place " + k, ask(both, call, other), ask(alone[k], call, arguments));
            }
        }
    }

    private static List<Long> view(SoupNine x, List<Method> calls) throws Exception {
        Random random = new Random(5);
        List<Long> answers = new ArrayList<>();
        for (int i = 0; i < 150; i++) {
            Method call = calls.get(random.nextInt(calls.size()));
            if (!List.of("feed", "end", "text", "image", "again").contains(call.getName())) {
                answers.add(ask(x, call, random));
            }
        }
        return answers;
    }

    private static void imagesHaveAll(List<Method> calls, int seed) throws Exception {
        Random random = new Random(seed);
        SoupNine x = new SoupNine();
        for (int i = 0; i < 10; i++) {
            Due.tell(x, random.nextInt(4), random.nextInt(3) - 1, TEXTS[random.nextInt(TEXTS.length)]);
        }
        int k = random.nextInt(3);
        List<Long> now = view(x, calls);
        Due.is("image", x.image(k), true);
        for (int i = 0; i < 10; i++) {
            Due.tell(x, random.nextInt(4), random.nextInt(3) - 1, TEXTS[random.nextInt(TEXTS.length)]);
        }
        view(x, calls);
        Due.is("again", x.again(k), true);
        Due.is("all is as it was", view(x, calls).equals(now), true);
    }
}

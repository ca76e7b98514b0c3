import java.lang.reflect.Method;
import java.util.Arrays;
import java.util.Random;

/**
 * Runs by fixed seeds on the program and on the Model: both answer alike. A run ends ahead of the
 * 513th call, and those that only look at what is told count, too: so not all is looked at each time.
 */
public final class RandomRunsTest {
    private static final int RUNS = 600, CALLS = 512, CALLS_OF_A_LOOK = 9, BETWEEN_LOOKS = 8;

    /** Each call with the sorts of its arguments. */
    private static final String[] CALL_SORTS = {
        "row r n", "lay r p v", "lay r p s", "lay r p w", "at r p", "tear r", "copy r p r p p", "mean r",
        "text t n", "put t p b", "fault t", "street t", "house i k", "mark i k", "altar f", "wall i f", "wall i d",
        "hour s", "hour s", "hour s", "undo p", "jar", "loud p", "made i", "tithe i", "pay i d", "due", "keep o", "on o",
        "fits w", "sure w", "odds i w", "thunder w w", "joined r", "silence w", "rises",
        "wedding w", "feathers s w r", "most", "hours s w", "year r", "debt i i d", "debt i i f", "balance i",
        "payments", "net", "crickets w v", "sings", "asked", "upper", "lower", "count k", "finding", "findings k",
        "digest"
    };

    private static final Check CHECK = new Check();

    private final Random random;
    private final NoiseTithe program = new NoiseTithe();
    private final Model model = new Model();
    private int calls = 0;

    private RandomRunsTest(int seed) {
        random = new Random(seed);
    }

    public static void main(String[] args) throws ReflectiveOperationException {
        for (int seed = 1; seed <= RUNS; seed++) {
            new RandomRunsTest(seed).run(seed);
        }
        CHECK.end();
    }

    private void run(int seed) throws ReflectiveOperationException {
        while (hasRoom()) {
            int what = random.nextInt(60);
            if (calls < 3 || what == 0) {
                buildStreet(seed);
            } else if (what == 1) {
                fillRow(seed);
            } else {
                String[] sorts = CALL_SORTS[random.nextInt(CALL_SORTS.length)].split(" ");
                int[] args = new int[sorts.length - 1];
                for (int k = 0; k < args.length; k++) {
                    args[k] = argument(sorts[k + 1].charAt(0));
                }
                call(seed, sorts[0], args);
            }
        }
        look("at the end of run " + seed);
    }

    /** For one more call, what it tells by asked(), and a last look. */
    private boolean hasRoom() {
        return calls + 2 + 2 * CALLS_OF_A_LOOK <= CALLS;
    }

    private void buildStreet(int seed) throws ReflectiveOperationException {
        int t = random.nextInt(4);
        StringBuilder text = new StringBuilder(" ".repeat(random.nextInt(2)));
        text.append('a').append(random.nextInt(10)).append(random.nextInt(10));
        int houses = random.nextInt(4) == 0 ? random.nextInt(10) : 4 + random.nextInt(5);
        for (int i = 0; i < houses; i++) {
            text.append(" ".repeat(random.nextInt(3)));
            text.append("hfmbuc".charAt(random.nextInt(6)));
            text.append(random.nextInt(10)).append(random.nextInt(random.nextBoolean() ? 2 : 10));
        }
        call(seed, "text", t, text.length());
        for (int i = 0; i < text.length(); i++) {
            if (text.charAt(i) != ' ' && random.nextInt(300) != 0) {
                call(seed, "put", t, i, text.charAt(i));
            }
        }
        call(seed, "fault", t);
        call(seed, "street", t);
    }

    private void fillRow(int seed) throws ReflectiveOperationException {
        int r = random.nextInt(3);
        int n = random.nextInt(5);
        int rise = random.nextInt(30);
        call(seed, "row", r, n);
        for (int i = 0; i < n; i++) {
            call(seed, "lay", r, i, random.nextInt(3) == 0 ? random.nextInt(40) : rise);
        }
        call(seed, "joined", r);
        call(seed, "year", r);
    }

    private int argument(char sort) {
        if (random.nextInt(60) == 0) {
            int[] far = {-1, Integer.MIN_VALUE, Integer.MAX_VALUE, 41, 81, 100, 201, 256};
            return far[random.nextInt(far.length)];
        }
        switch (sort) {
            case 'r': return random.nextInt(20) == 0 ? random.nextInt(8) - 1 : random.nextInt(3);
            case 't': return random.nextInt(6) - 1;
            case 'n': return random.nextInt(30) == 0 ? random.nextInt(90) - 2 : random.nextInt(12);
            case 'p': return random.nextInt(10) - 1;
            case 'i': return random.nextInt(20) == 0 ? random.nextInt(10) - 1 : random.nextInt(6);
            case 'k': return random.nextInt(10) - 1;
            case 'f': return random.nextInt(12) - 1;
            case 'd': return random.nextInt(102) - 1;
            case 'o': return random.nextInt(5) - 1;
            case 's': return random.nextInt(3) == 0 ? random.nextInt(256) : random.nextInt(64);
            case 'w': return random.nextInt(8) == 0 ? random.nextInt(202) : random.nextInt(45);
            case 'b': return random.nextInt(4) == 0 ? random.nextInt(600) - 300 : "hfmbuca 059".charAt(random.nextInt(11));
            default: return random.nextInt();
        }
    }

    private void call(int seed, String name, int... values) throws ReflectiveOperationException {
        if (!hasRoom()) {
            return;
        }
        Class<?>[] types = new Class<?>[values.length];
        Arrays.fill(types, int.class);
        Object[] args = Arrays.stream(values).boxed().toArray();
        Method ofProgram = NoiseTithe.class.getMethod(name, types);
        Method ofModel = Model.class.getMethod(name, types);
        String call = "run " + seed + ", call " + calls + ", " + name + Arrays.toString(values);
        CHECK.due(call, number(ofProgram.invoke(program, args)), number(ofModel.invoke(model, args)));
        CHECK.due("asked() behind " + call, program.asked(), model.asked());
        calls += 2;
        if (random.nextInt(BETWEEN_LOOKS) == 0) {
            look("behind " + call);
        }
    }

    private void look(String call) {
        calls += CALLS_OF_A_LOOK;
        CHECK.due("upper() " + call, program.upper(), model.upper());
        CHECK.due("lower() " + call, program.lower(), model.lower());
        CHECK.due("finding() " + call, program.finding(), model.finding());
        for (int f = 1; f <= 5; f++) {
            CHECK.due("findings(" + f + ") " + call, program.findings(f), model.findings(f));
        }
        CHECK.due("digest() " + call, program.digest(), model.digest());
    }

    private static long number(Object answer) {
        return ((Number) answer).longValue();
    }
}

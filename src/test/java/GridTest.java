import java.lang.reflect.InvocationTargetException;
import java.lang.reflect.Method;
import java.lang.reflect.Modifier;
import java.util.ArrayList;
import java.util.Arrays;
import java.util.Comparator;
import java.util.List;
import java.util.Set;

/**
 * Every call with every choice of arguments from a grid (bounds, what lies next to them, far ones), asked in unlike
 * states: none throws, each answers as the Model, also where several arguments are wrong at once, and leaves the
 * state that the Model has then.
 */
public final class GridTest {
    private static final int MIN = Integer.MIN_VALUE;
    private static final int MAX = Integer.MAX_VALUE;

    /** The values of each argument of a call that has so many. */
    private static final int[][] VALUES = {
        {},
        {MIN, -1, 0, 1, 2, 3, 4, 5, 6, 7, 8, 10, 12, 19, 20, 24, 40, 41, 360, 719, 720, 9999, 99999, 100000, 1000000,
            1000001, MAX},
        {MIN, -1, 0, 1, 2, 3, 4, 5, 6, 7, 40, 41, 719, 720, 9999, 10000, 99999, 100000, MAX},
        {MIN, -1, 0, 1, 2, 3, 4, 5, 6, 7, 40, 41, MAX},
        {MIN, -1, 0, 1, 3, 8, 10, 40, 41, MAX},
        {MIN, -1, 0, 1, 2, 3, 4, MAX}};

    /** Numbers that are cut by some sorts, and not by others. */
    private static final long[] LONGS = {Long.MIN_VALUE, -1, 0, 127, 128, 255, 32768, 1L << 31, 1L << 40, Long.MAX_VALUE};

    private static final Set<String> CHANGING = Set.of("kingdom", "close", "comes", "go", "toss", "rest", "give", "change",
            "perform", "fair", "numbers", "write", "copy", "image", "restore");

    private static final int MOST_CALLS = 512;

    private final Check c;
    private final String state;
    private final String[] calls;
    private TollsBack x;
    private Model m;
    private int asked;

    private GridTest(Check c, String state, String... calls) {
        this.c = c;
        this.state = state;
        this.calls = calls;
    }

    public static void main(String[] args) throws Exception {
        Check c = new Check("GridTest");
        new GridTest(c, "new").all();
        new GridTest(c, "no TOWNS", "year 5;late 6;", "numbers 0 3 2", "numbers 3 0 0", "image 1").all();
        new GridTest(c, "a FAULT", "towns 2;x").all();
        new GridTest(c, "no ROADS", "towns 2;home 1;", "comes 7", "comes 8", "numbers 1 2 40", "image 0").all();
        new GridTest(c, "on the way", Realms.ROUND, "comes 100", "comes 50", "comes 0", "image 0", "go 0 0", "go 0 1",
                "go 1 2", "rest 1 200", "numbers 0 0 2", "write 0 1 1", "numbers 1 1 3", "write 1 0 4", "write 1 1 3",
                "write 1 2 1", "numbers 3 3 0", "close 1 1").all();
        new GridTest(c, "in one TOWN", Realms.PAIR, "comes 30", "comes 1000000", "comes 5", "go 0 1", "go 1 0", "go 2 0",
                "rest 0 999", "give 1 2 3", "numbers 0 0 1", "numbers 1 0 40", "write 1 39 1", "numbers 2 3 2",
                "write 2 1 -1").all();
        new GridTest(c, "full", full()).all();
        c.end();
    }

    /** Six TRAVELLERS, of whom two have 40 SLIPS, and one more than there is room for, late in time. */
    private static String[] full() {
        List<String> calls = new ArrayList<>(List.of(Realms.PAIR, "comes 1000000", "comes 190", "comes 9", "comes 0",
                "comes 1", "comes 2", "numbers 0 0 40", "numbers 1 0 40", "numbers 2 1 39", "numbers 3 2 1"));
        for (int k = 0; k < 40; k++) {
            calls.add("write 0 " + k + " " + k % 2);
            calls.add("write 1 " + k + " " + (1 - k % 2));
        }
        calls.addAll(List.of("perform 0 0", "perform 1 1", "go 2 0"));
        for (int k = 0; k < 9; k++) {
            calls.add("rest 3 9999");
        }
        calls.addAll(List.of("rest 3 9999", "rest 3 9", "image 0", "image 1", "close 1 1"));
        return calls.toArray(new String[0]);
    }

    private void all() throws Exception {
        anew();
        compare("made");
        Method[] methods = TollsBack.class.getDeclaredMethods();
        Arrays.sort(methods, Comparator.comparing(Method::getName));
        for (Method method : methods) {
            if (Modifier.isPublic(method.getModifiers()) && !method.getName().equals("feed")) {
                choose(method, new Object[method.getParameterCount()], 0);
            }
        }
        feeds();
    }

    private void anew() throws Exception {
        x = new TollsBack();
        m = new Model();
        asked = 0;
        for (String call : calls) {
            if (call.contains(";")) {
                tell(call);
            } else {
                run(call.split(" "));
            }
        }
    }

    private void tell(String text) {
        byte[] b = Check.padded(text);
        for (int at = 0; at < b.length; at += 20) {
            feed(Check.intAt(b, at), Check.intAt(b, at + 4), Check.intAt(b, at + 8), Check.intAt(b, at + 12),
                    Check.intAt(b, at + 16));
        }
        asked++;
        c.due(state + ": kingdom of " + text, x.kingdom(text.length()), m.kingdom(text.length()));
    }

    private void feed(int... v) {
        asked++;
        c.due(state + ": feed", x.feed(v[0], v[1], v[2], v[3], v[4]), m.feed(v));
    }

    private void run(String[] words) throws Exception {
        for (Method method : TollsBack.class.getDeclaredMethods()) {
            if (method.getName().equals(words[0])) {
                Class<?>[] types = method.getParameterTypes();
                Object[] args = new Object[types.length];
                for (int i = 0; i < args.length; i++) {
                    args[i] = types[i] == boolean.class ? (Object) words[i + 1].equals("1")
                            : types[i] == long.class ? (Object) Long.valueOf(words[i + 1])
                            : (Object) Integer.valueOf(words[i + 1]);
                }
                ask(method, args);
            }
        }
    }

    private void choose(Method method, Object[] args, int next) throws Exception {
        if (next == args.length) {
            boolean changes = CHANGING.contains(method.getName());
            if (changes || asked >= MOST_CALLS) {
                anew();
            }
            ask(method, args);
            if (changes) {
                compare(method.getName() + Arrays.toString(args));
            }
            return;
        }
        Class<?> type = method.getParameterTypes()[next];
        if (type == boolean.class) {
            for (boolean v : new boolean[] {false, true}) {
                args[next] = v;
                choose(method, args, next + 1);
            }
        } else if (type == long.class) {
            for (long v : LONGS) {
                args[next] = v;
                choose(method, args, next + 1);
            }
        } else {
            for (int v : VALUES[args.length]) {
                args[next] = v;
                choose(method, args, next + 1);
            }
        }
    }

    private void ask(Method method, Object[] args) throws Exception {
        asked++;
        Method told = Model.class.getDeclaredMethod(method.getName(), method.getParameterTypes());
        long want = ((Number) told.invoke(m, args)).longValue();
        String call = state + ": " + method.getName() + Arrays.toString(args);
        try {
            c.due(call, ((Number) method.invoke(x, args)).longValue(), want);
        } catch (InvocationTargetException e) {
            c.holds(call + " threw " + e.getCause(), false);
        }
    }

    /** THE TAPE up to its last byte, and one feed() more. */
    private void feeds() throws Exception {
        anew();
        for (int times = 0; times < 36; times++) {
            feed(MIN, -1, 0, times, MAX);
        }
        compare("a tape that is full");
        c.due(state + ": kingdom(701)", x.kingdom(701), m.kingdom(701));
        c.due(state + ": kingdom(700)", x.kingdom(700), m.kingdom(700));
        compare("a tape that was full");
    }

    private void compare(String after) {
        String at = state + ", after " + after + ": ";
        for (int what = 0; what < 9; what++) {
            c.due(at + "count " + what, x.count(what), m.count(what));
        }
        c.due(at + "fault 0", x.fault(0), m.fault(0));
        c.due(at + "fault 1", x.fault(1), m.fault(1));
        for (int r = 0; r < m.count(1); r++) {
            c.due(at + "closed " + r, x.road(r, 5), m.road(r, 5));
        }
        for (int i = 0; i < m.count(2); i++) {
            for (int what = 0; what < 6; what++) {
                c.due(at + "of " + i + " " + what, x.of(i, what), m.of(i, what));
            }
            int top = m.of(i, 3) - 1;
            for (int what = 0; what < 6; what++) {
                c.due(at + "slip " + i + " " + what, x.slip(i, top, what), m.slip(i, top, what));
            }
        }
        for (int what = 0; what < 3; what++) {
            c.due(at + "treasury " + what, x.treasury(what), m.treasury(what));
        }
        c.due(at + "ledger", x.ledger(0, 719), m.ledger(0, 719));
        for (int row = 0; row < 4; row++) {
            c.due(at + "forged " + row, x.forged(row), m.forged(row));
            c.due(at + "places of " + row, x.write(row, 39, -1), m.write(row, 39, -1));
        }
        asked = MOST_CALLS;
    }
}

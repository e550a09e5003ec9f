import java.nio.charset.StandardCharsets;
import java.util.ArrayList;
import java.util.Arrays;
import java.util.List;
import java.util.Map;
import java.util.TreeMap;
import java.util.function.IntToLongFunction;
import java.util.function.Supplier;
import java.util.function.ToLongFunction;

/** What the tests share: an answer against the one that is due, a text fed to an object, rows. */
final class Check {
    /** The number under which the document's "Terms" are quoted, beside its promises 1 to 46. */
    static final int TERMS = 0;

    private final String name;
    private final Map<Integer, List<String>> quotes = new TreeMap<>();
    private String quoted = "";
    private Supplier<TollsBack> made = TollsBack::new;
    private int asked = 0;
    private int wrong = 0;

    Check(String name) {
        this.name = name;
    }

    /** The words of a promise (or of TERMS) to which the answers that follow are held. */
    void says(int promise, String words) {
        quotes.computeIfAbsent(promise, k -> new ArrayList<>()).add(words);
        quoted = words;
    }

    Map<Integer, List<String>> quotes() {
        return quotes;
    }

    void due(String what, long got, long want) {
        asked++;
        if (got != want) {
            complain(what + " answered " + got + ", due is " + want);
        }
    }

    void holds(String what, boolean stands) {
        due(what, stands ? 1 : 0, 1);
    }

    private void complain(String what) {
        wrong++;
        if (wrong <= 50) {
            System.out.println(name + ": " + what + (quoted.isEmpty() ? "" : "; the document: " + quoted));
        }
    }

    /** How the objects are made that stays() asks. */
    void on(Supplier<TollsBack> how) {
        made = how;
    }

    /** An answer of a new object, which is then as another one that was made alike and never asked. */
    void stays(String call, ToLongFunction<TollsBack> ask, long want) {
        TollsBack x = made.get();
        due(call, ask.applyAsLong(x), want);
        List<String> now = Trace.of(x);
        List<String> before = Trace.of(made.get());
        asked++;
        for (int i = 0; i < Math.max(now.size(), before.size()); i++) {
            String is = i < now.size() ? now.get(i) : "no more";
            String was = i < before.size() ? before.get(i) : "no more";
            if (!is.equals(was)) {
                complain(call + " changed " + was + " to " + is);
                return;
            }
        }
    }

    /** An answer that hangs on one number. */
    interface Asked {
        long by(TollsBack x, int n);
    }

    /** stays() for each of some numbers; the sign # stands for the number. */
    void stayAll(String call, Asked ask, long want, int... numbers) {
        for (int n : numbers) {
            stays(call.replace("#", String.valueOf(n)), x -> ask.by(x, n), want);
        }
    }

    /** due() for a row of answers, from what 0 on. */
    void dueEach(String call, IntToLongFunction ask, long... wants) {
        for (int what = 0; what < wants.length; what++) {
            due(call.replace("#", String.valueOf(what)), ask.applyAsLong(what), wants[what]);
        }
    }

    /** A text without a FAULT, of so many LINES. */
    void good(String text, int lines) {
        TollsBack x = new TollsBack();
        due("kingdom of " + text, kingdom(x, text), lines);
        due("its FAULT: " + text, x.fault(0), 0);
        due("its place: " + text, x.fault(1), -1);
        due("its LINES: " + text, x.count(8), lines);
    }

    /** A text with a FAULT; the sign ^ stands ahead of its place. */
    void bad(int kind, String text) {
        int place = text.indexOf('^');
        String whole = text.substring(0, place) + text.substring(place + 1);
        TollsBack x = new TollsBack();
        due("kingdom of " + whole, kingdom(x, whole), -30 - kind);
        due("its FAULT: " + whole, x.fault(0), kind);
        due("its place: " + whole, x.fault(1), place);
    }

    boolean failed() {
        return wrong > 0;
    }

    void end() {
        System.out.println(name + ": " + asked + " answers, " + wrong + " wrong");
        if (wrong > 0 || asked == 0) {
            System.exit(1);
        }
    }

    /** The bytes of a text, with blanks behind it up to a feed's twenty. */
    static byte[] padded(String text) {
        byte[] bytes = text.getBytes(StandardCharsets.ISO_8859_1);
        byte[] all = Arrays.copyOf(bytes, (bytes.length + 19) / 20 * 20);
        Arrays.fill(all, bytes.length, all.length, (byte) ' ');
        return all;
    }

    static int intAt(byte[] bytes, int at) {
        return (bytes[at] & 255) << 24 | (bytes[at + 1] & 255) << 16
                | (bytes[at + 2] & 255) << 8 | bytes[at + 3] & 255;
    }

    /** The answer of the last feed() of a text. */
    static int feed(TollsBack x, String text) {
        byte[] b = padded(text);
        int answer = 0;
        for (int at = 0; at < b.length; at += 20) {
            answer = x.feed(intAt(b, at), intAt(b, at + 4), intAt(b, at + 8), intAt(b, at + 12), intAt(b, at + 16));
        }
        return answer;
    }

    static int kingdom(TollsBack x, String text) {
        feed(x, text);
        return x.kingdom(text.length());
    }

    /** A new object with a KINGDOM. */
    static TollsBack realm(String text) {
        TollsBack x = new TollsBack();
        int lines = kingdom(x, text);
        if (lines < 0) {
            throw new IllegalArgumentException(text + " has a FAULT: " + lines + " at " + x.fault(1));
        }
        return x;
    }

    /** A new object with a KINGDOM and all that a refused call could spoil but TRAVELLERS and THE TAPE. */
    static TollsBack busyRealm(String text) {
        TollsBack x = realm(text);
        kingdom(x, "year 9;x");
        x.numbers(0, 0, 2);
        x.write(0, 1, 1);
        x.numbers(1, 1, 3);
        x.write(1, 0, 2);
        x.write(1, 1, 1);
        x.numbers(2, 3, 0);
        x.image(0);
        return x;
    }

    static void row(TollsBack x, int row, long... numbers) {
        x.numbers(row, 3, numbers.length);
        for (int i = 0; i < numbers.length; i++) {
            x.write(row, i, numbers[i]);
        }
    }

    /** n numbers, those at even places like the first, those at odd ones like the second. */
    static long[] byTurns(int n, long even, long odd) {
        long[] row = new long[n];
        for (int k = 0; k < n; k++) {
            row[k] = k % 2 == 0 ? even : odd;
        }
        return row;
    }
}

import java.nio.charset.StandardCharsets;
import java.util.Arrays;

/** What the tests share: an answer against the one that is due, a text fed to an object, rows. */
final class Check {
    private final String name;
    private int asked = 0;
    private int wrong = 0;

    Check(String name) {
        this.name = name;
    }

    void due(String what, long got, long want) {
        asked++;
        if (got != want) {
            wrong++;
            if (wrong <= 50) {
                System.out.println(name + ": " + what + " answered " + got + ", due is " + want);
            }
        }
    }

    void holds(String what, boolean stands) {
        due(what, stands ? 1 : 0, 1);
    }

    boolean failed() {
        return wrong > 0;
    }

    void end() {
        System.out.println(name + ": " + asked + " answers, " + wrong + " wrong");
        if (wrong > 0 || asked == 0) {
            System.exit(1);
        }
    }

    /** The bytes of a text, with blanks behind it up to a feed's twenty. */
    static byte[] padded(String text) {
        byte[] bytes = text.getBytes(StandardCharsets.ISO_8859_1);
        byte[] all = Arrays.copyOf(bytes, (bytes.length + 19) / 20 * 20);
        Arrays.fill(all, bytes.length, all.length, (byte) ' ');
        return all;
    }

    static int intAt(byte[] bytes, int at) {
        return (bytes[at] & 255) << 24 | (bytes[at + 1] & 255) << 16
                | (bytes[at + 2] & 255) << 8 | bytes[at + 3] & 255;
    }

    static void feed(TollsBack x, String text) {
        byte[] b = padded(text);
        for (int at = 0; at < b.length; at += 20) {
            x.feed(intAt(b, at), intAt(b, at + 4), intAt(b, at + 8), intAt(b, at + 12), intAt(b, at + 16));
        }
    }

    static int kingdom(TollsBack x, String text) {
        feed(x, text);
        return x.kingdom(text.length());
    }

    /** A new object with a KINGDOM. */
    static TollsBack realm(String text) {
        TollsBack x = new TollsBack();
        int lines = kingdom(x, text);
        if (lines < 0) {
            throw new IllegalArgumentException(text + " has a FAULT: " + lines + " at " + x.fault(1));
        }
        return x;
    }

    static void row(TollsBack x, int row, long... numbers) {
        x.numbers(row, 3, numbers.length);
        for (int i = 0; i < numbers.length; i++) {
            x.write(row, i, numbers[i]);
        }
    }
}

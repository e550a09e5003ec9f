/** Promises 41 to 46: ROWS OF NUMBERS, IMAGES, count. */
public final class RowsTest {
    private static final String REALM = "towns 3;home 1;road 0 to 1 toll 10 summer 20 days 5;"
            + "road 1 to 2 toll 7 days 3;road 2 to 0 toll 30 days 1;year 100;late 40;";

    private static final Check C = new Check("RowsTest");

    public static void main(String[] args) {
        numbers();
        write();
        copy();
        image();
        imageHoldsAll();
        count();
        C.end();
    }

    private static void numbers() {
        TollsBack x = new TollsBack();
        for (int row = 0; row < 4; row++) {
            C.due("MISSING at first", x.write(row, 0, 1), -6);
            C.due("numbers", x.numbers(row, row, 40), 0);
            C.due("the last", x.write(row, 39, 7), 7);
            C.due("beyond", x.write(row, 40, 7), -7);
        }
        C.due("no ROW", x.numbers(4, 0, 1), -2);
        C.due("no ROW below 0", x.numbers(-1, 0, 1), -2);
        C.due("no sort", x.numbers(0, 4, 99), -2);
        C.due("no sort below 0", x.numbers(0, -1, 1), -2);
        C.due("too many", x.numbers(0, 0, 41), -3);
        C.due("below 0", x.numbers(0, 3, -1), -3);
        C.due("the ROW stays", x.write(0, 39, 300), 44);
        C.due("none at all", x.numbers(0, 0, 0), 0);
        C.due("it has no number", x.write(0, 0, 0), -7);
        C.due("it isn't MISSING", x.write(0, 0, 0) == -6 ? 1 : 0, 0);
        TollsBack y = Check.realm(REALM);
        Check.row(y, 0, 3, 5);
        y.numbers(0, 0, 2);
        C.due("all 0: place 0 is a SLIP from 0", y.forged(0), 0);
        y.write(0, 0, 1);
        C.due("number 1 is 0, too: turned about", y.forged(0), 1);
    }

    private static void write() {
        TollsBack x = new TollsBack();
        long v = 0x123456789abcdef0L;
        long[] due = {(byte) v, (short) v, (int) v, v};
        for (int sort = 0; sort < 4; sort++) {
            x.numbers(1, sort, 3);
            C.due("cut to sort " + sort, x.write(1, 2, v), due[sort]);
            C.due("-1 as sort " + sort, x.write(1, 0, -1), -1);
            C.due("MAX as sort " + sort, x.write(1, 0, Long.MAX_VALUE), sort < 3 ? -1 : Long.MAX_VALUE);
            C.due("MIN as sort " + sort, x.write(1, 0, Long.MIN_VALUE), sort < 3 ? 0 : Long.MIN_VALUE);
            C.due("beyond", x.write(1, 3, v), -7);
            C.due("below 0", x.write(1, -1, v), -7);
        }
        x.numbers(1, 0, 1);
        C.due("127", x.write(1, 0, 127), 127);
        C.due("128", x.write(1, 0, 128), -128);
        x.numbers(1, 1, 1);
        C.due("32767", x.write(1, 0, 32767), 32767);
        C.due("32768", x.write(1, 0, 32768), -32768);
        x.numbers(1, 2, 1);
        C.due("2^31", x.write(1, 0, 1L << 31), -(1L << 31));
        C.due("no ROW", x.write(4, 0, v), -2);
        C.due("no ROW below 0", x.write(-1, 0, v), -2);
        C.due("MISSING", x.write(2, 99, v), -6);
    }

    private static void copy() {
        TollsBack x = Check.realm(REALM);
        x.comes(100);
        C.due("MISSING", x.copy(0, 0), -6);
        C.due("no ROW", x.copy(0, 4), -2);
        C.due("no TRAVELLER", x.copy(1, 0), -2);
        x.numbers(0, 0, 0);
        C.due("none", x.copy(0, 0), 0);
        x.go(0, 1);
        x.go(0, 2);
        x.go(0, 0);
        x.numbers(0, 1, 2);
        x.write(0, 0, 99);
        C.due("not so many places", x.copy(0, 0), -7);
        C.due("nothing comes", x.forged(0), -3);
        x.numbers(0, 2, 4);
        x.write(0, 3, 3);
        C.due("three", x.copy(0, 0), 3);
        // 1 to 2: 2, 2 to 0: 4, 0 to 1: 0; then 3, from 2 to 1, is left of before.
        C.due("what was behind them stays", x.forged(0), 3);
        x.write(0, 3, 2);
        C.due("they can be", x.forged(0), -1);
        x.go(0, 0);
        x.go(0, 2);
        x.go(0, 1);
        x.go(0, 0);
        C.due("one", x.copy(0, 0), 1);
        C.due("from its second TOWN to its first: 1; then 4 leads from elsewhere", x.forged(0), 1);
        x.write(0, 1, 0);
        C.due("turned about", x.forged(0), 1);
        x.write(0, 1, 5);
        C.due("to 2", x.forged(0), 2);
    }

    private static void image() {
        TollsBack x = new TollsBack();
        C.due("none was made", x.restore(0), -5);
        for (int i : new int[] {-1, 2, 99}) {
            C.due("image(" + i + ")", x.image(i), -2);
            C.due("restore(" + i + ")", x.restore(i), -2);
        }
        C.due("of nothing", x.image(1), 0);
        C.due("the other one isn't", x.restore(0), -5);
        Check.kingdom(x, REALM);
        x.comes(5);
        C.due("restore", x.restore(1), 0);
        C.due("no TOWNS", x.count(0), 0);
        C.due("no TRAVELLERS", x.count(2), 0);
        C.due("comes", x.comes(1), -5);
    }

    private static void imageHoldsAll() {
        TollsBack x = Check.realm(REALM);
        x.comes(100);
        x.comes(200);
        x.go(0, 0);
        x.go(0, 2);
        x.close(1, true);
        x.image(0);
        x.go(0, 2);
        x.go(1, 0);
        x.close(1, false);
        x.change(0, 1);
        x.comes(300);
        x.image(1);
        Check.kingdom(x, "towns 2;");
        Check.row(x, 0, 77);
        Check.feed(x, "x");
        Check.kingdom(x, "x");
        Check.feed(x, "year");
        C.due("restore(0)", x.restore(0), 0);
        C.due("TRAVELLERS", x.count(2), 2);
        C.due("closed", x.road(1, 5), 1);
        C.due("his TOWN", x.of(0, 0), 2);
        C.due("his SLIPS", x.of(0, 3), 2);
        C.due("a SLIP", x.slip(0, 1, 4), 30);
        C.due("the other one's PURSE", x.of(1, 2), 200);
        C.due("THE TREASURY", x.treasury(0), 40);
        C.due("THE LEDGER", x.ledger(0, 5), 40);
        C.due("the FAULT is not in it", x.fault(0), 2);
        C.due("nor THE TAPE", x.count(7), 20);
        C.due("nor ROWS", x.write(0, 1, 0), -7);
        x.go(0, 2);
        x.toss(0);
        C.due("restore(0) again", x.restore(0), 0);
        C.due("his SLIPS again", x.of(0, 3), 2);
        C.due("LINES", x.count(8), 7);
        C.due("restore(1)", x.restore(1), 0);
        C.due("TRAVELLERS then", x.count(2), 3);
        C.due("open then", x.count(6), 0);
        C.due("THE TREASURY then", x.treasury(0), 20);
        C.due("made anew", x.image(0), 0);
        x.toss(0);
        x.restore(0);
        C.due("it is the newer one", x.count(2), 3);
        C.due("with the SLIP", x.of(0, 3), 1);
    }

    private static void count() {
        TollsBack x = Check.realm(REALM);
        x.comes(5);
        x.comes(5);
        x.close(0, true);
        x.close(2, true);
        Check.feed(x, "some bytes");
        int[] due = {3, 3, 2, 1, 100, 40, 2, 20, 7};
        for (int what = 0; what < due.length; what++) {
            C.due("count(" + what + ")", x.count(what), due[what]);
        }
        C.due("count(9)", x.count(9), -1);
        C.due("count(-1)", x.count(-1), -1);
        C.due("HOME without TOWNS", Check.realm("year 5;").count(3), -1);
    }
}

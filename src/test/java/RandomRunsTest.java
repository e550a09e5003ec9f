import java.util.Random;

/** Runs of random calls, each answer held against the Model's: all promises together. */
public final class RandomRunsTest {
    private static final int RUNS = 1200;
    private static final int CALLS = 400;

    private final Check c;
    private final Random random;
    private final TollsBack x = new TollsBack();
    private final Model m = new Model();
    private final StringBuilder log = new StringBuilder();

    /** Up to 12 TOWNS and 24 ROADS; then no BOX is sought among all SLIPS. */
    private final boolean large;

    private RandomRunsTest(Check c, long seed) {
        this.c = c;
        this.random = new Random(seed);
        this.large = seed % 4 == 3;
    }

    public static void main(String[] args) {
        Check c = new Check("RandomRunsTest");
        for (long seed = 0; seed < RUNS && !c.failed(); seed++) {
            RandomRunsTest run = new RandomRunsTest(c, seed);
            run.all();
            if (c.failed()) {
                System.out.println("seed " + seed + run.log);
            }
        }
        c.end();
    }

    private void all() {
        int calls = 0;
        newKingdom(false);
        while (calls < CALLS && !c.failed()) {
            calls++;
            int pick = random.nextInt(1000);
            if (pick < 4) {
                newKingdom(random.nextBoolean());
            } else {
                one(random.nextInt(64));
            }
        }
    }

    private int upTo(int n) {
        return random.nextInt(n + 1);
    }

    private int pick(int... of) {
        return of[random.nextInt(of.length)];
    }

    /** Mostly 0 to n less 1; at times a bit outside, or far. */
    private int about(int n) {
        int p = random.nextInt(40);
        if (p == 0) {
            return -1;
        }
        if (p == 1) {
            return n;
        }
        if (p == 2) {
            return pick(Integer.MIN_VALUE, Integer.MAX_VALUE, n + 1, 1 << 24, -1 << 16);
        }
        return n <= 0 ? 0 : random.nextInt(n);
    }

    private int who() {
        return about(m.count(2));
    }

    private int someRoad() {
        return about(m.count(1));
    }

    /** A ROAD that leads from where one is, as a rule. */
    private int roadFor(int i) {
        int open = m.from(m.of(i, 0));
        if (open <= 0 || random.nextInt(6) == 0) {
            return someRoad();
        }
        // Often back by the top SLIP.
        int top = m.slip(i, m.of(i, 3) - 1, 0);
        if (top >= 0 && random.nextInt(3) == 0) {
            return top;
        }
        int r = random.nextInt(24);
        while ((open >> r & 1) == 0) {
            r = (r + 1) % 24;
        }
        return r;
    }

    private int day() {
        return pick(upTo(800), upTo(800), upTo(100000), -1, Integer.MAX_VALUE, 99999, 0);
    }

    private String largeText() {
        StringBuilder t = new StringBuilder();
        int towns = 6 + random.nextInt(7);
        t.append("towns").append(towns).append(";home").append(random.nextInt(towns)).append(";");
        t.append("year").append(1 + upTo(99)).append(";");
        int roads = 10 + upTo(14);
        for (int r = 0; r < roads; r++) {
            int one = random.nextInt(towns);
            int other = (one + 1 + random.nextInt(towns - 1)) % towns;
            t.append("road").append(one).append("to").append(other).append("toll").append(upTo(pick(3, 9)));
            t.append(random.nextInt(6) == 0 ? "summer" + upTo(9) : "").append("days").append(1 + upTo(8)).append(";");
        }
        return t.toString();
    }

    private String text() {
        return large ? largeText() : smallText();
    }

    private String smallText() {
        StringBuilder t = new StringBuilder();
        int towns = 2 + random.nextInt(4);
        if (random.nextInt(3) == 0) {
            t.append("year ").append(1 + upTo(359)).append(";");
        }
        t.append("towns ").append(towns).append(";");
        int roads = upTo(8);
        for (int r = 0; r < roads; r++) {
            int one = random.nextInt(towns);
            int other = (one + 1 + random.nextInt(towns - 1)) % towns;
            int coins = pick(3, 20, 999);
            t.append("road ").append(one).append(" to ").append(other).append(" toll ").append(upTo(coins));
            if (random.nextBoolean()) {
                t.append(" summer ").append(upTo(coins));
            }
            t.append(" days ").append(1 + upTo(pick(2, 9, 89))).append(pick(0, 1) == 0 ? ";" : " ;\n");
        }
        if (random.nextBoolean()) {
            t.append("year ").append(1 + upTo(pick(4, 40, 359))).append(";");
        }
        if (random.nextInt(3) == 0) {
            t.append("late ").append(upTo(100)).append(";");
        }
        if (random.nextInt(3) == 0) {
            t.append("home ").append(random.nextInt(towns)).append(";");
        }
        if (random.nextInt(3) == 0) {
            int first = upTo(359);
            t.append("summer ").append(first).append(" to ").append(first + upTo(359 - first)).append(";");
        }
        return t.toString();
    }

    private String spoil(String text) {
        StringBuilder t = new StringBuilder(text);
        for (int times = 1 + upTo(1); times > 0 && t.length() > 0; times--) {
            int at = random.nextInt(t.length());
            String[] bits = {";", " ", "0", "9", "99", "a", "road", "towns", "\t", "A", "\n", "summer", "to", "\u00e9"};
            switch (random.nextInt(4)) {
                case 0 -> t.deleteCharAt(at);
                case 1 -> t.insert(at, bits[random.nextInt(bits.length)]);
                case 2 -> t.replace(at, at + 1, bits[random.nextInt(bits.length)]);
                default -> t.setLength(at);
            }
        }
        return t.toString();
    }

    private void newKingdom(boolean spoiled) {
        String text = spoiled ? spoil(text()) : text();
        log.append("\nkingdom ").append(text);
        byte[] b = Check.padded(text);
        for (int at = 0; at < b.length; at += 20) {
            int[] v = new int[5];
            for (int k = 0; k < 5; k++) {
                v[k] = Check.intAt(b, at + 4 * k);
            }
            c.due("feed", x.feed(v[0], v[1], v[2], v[3], v[4]), m.feed(v));
        }
        int n = random.nextInt(30) == 0 ? pick(-1, b.length + 1, upTo(b.length)) : text.length();
        n += m.count(7) - b.length;
        c.due("kingdom(" + n + ")", x.kingdom(n), m.kingdom(n));
        c.due("fault(0)", x.fault(0), m.fault(0));
        c.due("fault(1)", x.fault(1), m.fault(1));
        for (int k = pick(0, 1, 3, 6); k > 0; k--) {
            int purse = pick(5, 100, 2000, 1000000);
            c.due("comes", x.comes(purse), m.comes(purse));
        }
    }

    private void due(String name, long got, long want, long... args) {
        StringBuilder call = new StringBuilder("\n  ").append(name).append("(");
        for (int i = 0; i < args.length; i++) {
            call.append(i == 0 ? "" : ", ").append(args[i]);
        }
        call.append(")");
        log.append(call).append(" ").append(want);
        c.due(call.toString(), got, want);
    }

    private void one(int op) {
        int i = who();
        int o = random.nextInt(8) == 0 ? i : who();
        int r = someRoad();
        int row = about(4);
        int what = about(3);
        switch (op) {
            case 0 -> fewWords();
            case 1 -> due("road", x.road(r, about6(0)), m.road(r, lastAbout), r, lastAbout);
            case 2 -> {
                int t = about(m.count(0));
                due("from", x.from(t), m.from(t), t);
            }
            case 3, 4 -> {
                boolean shut = random.nextInt(3) == 0;
                due("close", x.close(r, shut), m.close(r, shut), r, shut ? 1 : 0);
            }
            case 5 -> {
                int d = day();
                due("when", x.when(r, d), m.when(r, d), r, d);
            }
            case 6 -> {
                int d = day();
                due("summer", x.summer(d), m.summer(d), d);
            }
            case 7 -> {
                int purse = pick(upTo(1000), 1000000, 1000001, -1, 0);
                due("comes", x.comes(purse), m.comes(purse), purse);
            }
            case 8, 9 -> due("of", x.of(i, about6(0)), m.of(i, lastAbout), i, lastAbout);
            case 10, 11 -> {
                int k = about(m.of(i, 3));
                due("slip", x.slip(i, k, about6(0)), m.slip(i, k, lastAbout), i, k, lastAbout);
            }
            case 12, 13, 14, 15, 16, 17, 18 -> {
                int road = roadFor(i);
                due("go", x.go(i, road), m.go(i, road), i, road);
            }
            case 19 -> due("toss", x.toss(i), m.toss(i), i);
            case 20 -> {
                int days = pick(upTo(5), upTo(100), upTo(10001), -1);
                due("rest", x.rest(i, days), m.rest(i, days), i, days);
            }
            case 21 -> {
                int coins = pick(0, 0, upTo(50), -1, 1000000);
                due("give", x.give(i, o, coins), m.give(i, o, coins), i, o, coins);
            }
            case 22 -> due("change", x.change(i, o), m.change(i, o), i, o);
            default -> more(op, i, o, row, what);
        }
    }

    private int lastAbout;

    private int about6(int more) {
        lastAbout = about(6 + more);
        return lastAbout;
    }

    private void more(int op, int i, int o, int row, int what) {
        switch (op) {
            case 23, 24, 25 -> due("judge", x.judge(i, row, about6(1)), m.judge(i, row, lastAbout), i, row, lastAbout);
            case 26 -> due("perform", x.perform(i, row), m.perform(i, row), i, row);
            case 27 -> due("treasury", x.treasury(what), m.treasury(what), what);
            case 28 -> {
                int d = day();
                due("owes", x.owes(d), m.owes(d), d);
            }
            case 29 -> due("lapse", x.lapse(), m.lapse());
            case 30 -> due("blocked", x.blocked(i), m.blocked(i), i);
            case 31, 32 -> due("homeward", x.homeward(i, what), m.homeward(i, what), i, what);
            case 33 -> due("safe", x.safe(i), m.safe(i), i);
            case 34 -> due("needs", x.needs(i, row), m.needs(i, row), i, row);
            case 35 -> due("partner", x.partner(i), m.partner(i), i);
            case 36, 37 -> {
                int w = about(2);
                due("cheapest", x.cheapest(i, w), m.cheapest(i, w), i, w);
            }
            case 38 -> due("price", x.price(i, o), m.price(i, o), i, o);
            case 39 -> {
                int w = about(2);
                due("gain", x.gain(i, o, w), m.gain(i, o, w), i, o, w);
            }
            case 40 -> through(i);
            case 41, 42, 43 -> slipRow(row);
            case 44 -> lane();
            case 45 -> box();
            case 46 -> due("cutOff", x.cutOff(someRoadKept()), m.cutOff(kept), kept);
            case 47, 48 -> {
                int a = about(720);
                int b = random.nextBoolean() ? about(720) : 719;
                due("ledger", x.ledger(a, b), m.ledger(a, b), a, b);
            }
            case 49, 50 -> {
                int otherRow = about(4);
                int w = about(2);
                due("meet", x.meet(i, row, o, otherRow, w), m.meet(i, row, o, otherRow, w), i, row, o, otherRow, w);
            }
            case 51 -> {
                int seed = random.nextInt();
                int times = pick(1, 5, 40, 0, 41, upTo(40));
                due("fair", x.fair(i, seed, times), m.fair(i, seed, times), i, seed, times);
            }
            case 52, 53, 54 -> roadRow(i, row);
            case 55 -> {
                int sort = about(4);
                int n = about(41);
                due("numbers", x.numbers(row, sort, n), m.numbers(row, sort, n), row, sort, n);
            }
            case 56 -> {
                int at = about(40);
                long v = random.nextLong() >> random.nextInt(64);
                due("write", x.write(row, at, v), m.write(row, at, v), row, at, v);
            }
            case 57, 58 -> due("copy", x.copy(i, row), m.copy(i, row), i, row);
            case 59 -> due("image", x.image(what), m.image(what), what);
            case 60 -> {
                if (random.nextInt(4) == 0) {
                    due("restore", x.restore(what), m.restore(what), what);
                }
            }
            default -> due("count", x.count(about6(4)), m.count(lastAbout), lastAbout);
        }
    }

    private int kept;

    private int someRoadKept() {
        kept = someRoad();
        return kept;
    }

    private void fewWords() {
        int[] v = {random.nextInt(), random.nextInt(), 0x20202020, 0x20202020, random.nextInt()};
        due("feed", x.feed(v[0], v[1], v[2], v[3], v[4]), m.feed(v));
        if (m.count(7) > 500 || random.nextInt(5) == 0) {
            int n = about(m.count(7));
            due("kingdom", x.kingdom(n), m.kingdom(n), n);
        }
        due("fault", x.fault(0), m.fault(0), 0);
        due("fault", x.fault(1), m.fault(1), 1);
        due("fault", x.fault(2), m.fault(2), 2);
    }

    private void box() {
        int wanted = about(1 << m.count(0));
        if (!large) {
            due("box", x.box(wanted), m.box(wanted), wanted);
            due("boxByTrees", x.box(wanted), m.boxByTrees(wanted), wanted);
        } else if (m.count(0) < 10 || random.nextInt(20) == 0) {
            due("box", x.box(wanted), m.boxByTrees(wanted), wanted);
        }
    }

    private void through(int i) {
        int wanted = about(1 << m.count(0)) & pick(-1, 3, 6);
        int n = random.nextInt(12) == 0 ? about(9) : upTo(5);
        int what = pick(0, 1, 10, 11, 12, 13, 17, 18, 9, 2, -1);
        due("through", x.through(i, wanted, n, what), m.through(i, wanted, n, what), i, wanted, n, what);
    }

    private void lane() {
        int a = about(m.count(0));
        int b = about(m.count(0));
        int d = day();
        int what = pick(0, 1, 2, 10, 11, 12, 13, 20, 21, 9, 3, -1);
        due("lane", x.lane(a, b, d, what), m.lane(a, b, d, what), a, b, d, what);
    }

    private void write(int row, int at, long v) {
        due("write", x.write(row, at, v), m.write(row, at, v), row, at, v);
    }

    private void renew(int row, int n) {
        int sort = random.nextInt(4);
        due("numbers", x.numbers(row, sort, n), m.numbers(row, sort, n), row, sort, n);
    }

    /** A ROW of SLIPS, mostly one that can be, and what is asked of it. */
    private void slipRow(int row) {
        int size = pick(0, 1, 2, 2, 3, 4);
        renew(row, size);
        int town = m.count(3);
        for (int k = 0; k < size; k++) {
            int r = random.nextInt(Math.max(1, m.count(1)));
            for (int tries = 0; tries < 30 && m.road(r, 0) != town && m.road(r, 1) != town; tries++) {
                r = random.nextInt(Math.max(1, m.count(1)));
            }
            int turned = m.road(r, 0) == town ? 0 : 1;
            town = m.road(r, 1 - turned);
            int mark = random.nextInt(25) == 0 ? about(2 * m.count(1)) : 2 * r + turned;
            write(row, k, mark);
        }
        int n = random.nextInt(20) == 0 ? pick(-1, 41) : size + pick(0, 2, 2, 4, 1);
        due("forged", x.forged(row), m.forged(row), row);
        due("journeys", x.journeys(row, n), m.journeys(row, n), row, n);
        int k = pick(0, 1, 2, upTo(20), -1, Integer.MAX_VALUE);
        int at = about(Math.max(n, 1));
        due("journey", x.journey(row, n, k, at), m.journey(row, n, k, at), row, n, k, at);
    }

    /** A ROW of ROADS, mostly one that a TRAVELLER can go. */
    private void roadRow(int i, int row) {
        int size = pick(0, 1, 2, 3, 4, 6, 40);
        renew(row, size);
        int town = m.of(i, 0);
        for (int k = 0; k < size; k++) {
            int r = random.nextInt(Math.max(1, m.count(1)));
            for (int tries = 0; tries < 30 && m.road(r, 0) != town && m.road(r, 1) != town; tries++) {
                r = random.nextInt(Math.max(1, m.count(1)));
            }
            town = m.road(r, 0) == town ? m.road(r, 1) : m.road(r, 0);
            write(row, k, random.nextInt(60) == 0 ? random.nextLong() : r);
        }
        due("needs", x.needs(i, row), m.needs(i, row), i, row);
        due("judge", x.judge(i, row, 0), m.judge(i, row, 0), i, row, 0);
        due("judge", x.judge(i, row, 1), m.judge(i, row, 1), i, row, 1);
    }
}

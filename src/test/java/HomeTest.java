import java.math.BigInteger;

/** Promises 24 to 40: ways home, what SLIPS are worth, JOURNEYS, LANES, the rest of the road. */
public final class HomeTest {
    private static final String REALM = "towns 3;road 0 to 1 toll 10 summer 20 days 5;"
            + "road 1 to 2 toll 7 days 3;road 2 to 0 toll 30 days 1;year 100;late 40;";
    /** Two ROADS between two TOWNS. */
    private static final String PAIR = "towns 2;road 0 to 1 toll 5 days 1;road 0 to 1 toll 9 days 2;";

    private static final Check C = new Check("HomeTest");

    public static void main(String[] args) {
        homeward();
        safe();
        needs();
        partner();
        cheapest();
        cheapestNoWay();
        price();
        gain();
        through();
        throughFull();
        journeys();
        journeysOfMany();
        forged();
        journey();
        lane();
        box();
        cutOff();
        ledger();
        meet();
        fair();
        C.end();
    }

    private static void homeward() {
        TollsBack x = Check.realm(REALM);
        x.comes(100);
        for (int what = 0; what < 3; what++) {
            C.due("no SLIPS: homeward(0, " + what + ")", x.homeward(0, what), 0);
        }
        x.go(0, 0);
        x.go(0, 1);
        x.rest(0, 90);
        C.due("DAY 98", x.of(0, 1), 98);
        C.due("the lower one is late when it comes: 7 and 4", x.homeward(0, 0), 11);
        C.due("days", x.homeward(0, 1), 8);
        C.due("late then", x.homeward(0, 2), 1);
        C.due("nothing stays", x.of(0, 3), 2);
        x.close(0, true);
        C.due("a closed ROAD below", x.homeward(0, 0), -1);
        x.close(0, false);
        x.toss(0);
        C.due("the next one doesn't lead from here", x.homeward(0, 1), -1);
        C.due("homeward(0, 3)", x.homeward(0, 3), -2);
        C.due("homeward(0, -1)", x.homeward(0, -1), -2);
        C.due("homeward(1, 0)", x.homeward(1, 0), -2);
        TollsBack y = Check.realm(PAIR);
        y.comes(50);
        y.go(0, 0);
        y.go(0, 1);
        y.toss(0);
        C.due("at HOME with a SLIP from HOME: it can't be had back", y.homeward(0, 0), -1);
    }

    private static void safe() {
        TollsBack x = Check.realm(REALM);
        x.comes(100);
        C.due("no SLIPS", x.safe(0), -1);
        x.go(0, 0);
        x.go(0, 1);
        C.due("3 days ahead of 100", x.safe(0), 97);
        x.rest(0, 89);
        C.due("on that DAY", x.safe(0), 97);
        C.due("none is late", x.homeward(0, 2), 0);
        x.rest(0, 1);
        C.due("it is past", x.safe(0), -1);
        C.due("one is late", x.homeward(0, 2), 1);
        C.due("safe(1)", x.safe(1), -2);
        C.due("safe(-1)", x.safe(-1), -2);
        TollsBack y = Check.realm(REALM);
        y.comes(100);
        y.go(0, 2);
        C.due("one SLIP", y.safe(0), 100);
        y.close(2, true);
        C.due("it can't be", y.safe(0), -1);
    }

    private static void needs() {
        TollsBack x = Check.realm(REALM);
        x.comes(0);
        C.due("MISSING", x.needs(0, 0), -6);
        C.due("no ROW", x.needs(0, 4), -2);
        C.due("no TRAVELLER", x.needs(1, 0), -2);
        Check.row(x, 0);
        C.due("none", x.needs(0, 0), 0);
        Check.row(x, 0, 0, 1, 2);
        C.due("all that is paid", x.needs(0, 0), 47);
        Check.row(x, 0, 0, 0, 2, 2, 0, 1);
        C.due("what comes back helps", x.needs(0, 0), 30);
        Check.row(x, 0, 0, 2);
        C.due("it doesn't lead from there", x.needs(0, 0), -1);
        Check.row(x, 0, 0, 7);
        C.due("no ROAD", x.needs(0, 0), -1);
        x.close(0, true);
        Check.row(x, 0, 2, 1, 0);
        C.due("closed", x.needs(0, 0), -1);
        TollsBack y = Check.realm(REALM);
        y.comes(50);
        y.go(0, 0);
        y.rest(0, 200);
        Check.row(y, 0, 0, 2);
        C.due("half of it when it is late: 4 first, then 30", y.needs(0, 0), 26);
        C.due("nothing stays", y.of(0, 2), 40);
        TollsBack z = Check.realm("towns 2;road 0 to 1 toll 999 days 90;road 0 to 1 toll 999 days 90;");
        z.comes(0);
        Check.row(z, 0, Check.byTurns(40, 0, 1));
        C.due("forty dear ones", z.needs(0, 0), 39960);
        TollsBack w = Check.realm(PAIR);
        w.comes(1000);
        Check.row(w, 0, 0);
        for (int k = 0; k < 40; k++) {
            w.go(0, k % 2);
        }
        C.due("forty SLIPS are another reason", w.needs(0, 0), -1);
    }

    private static void partner() {
        // A SLIP is worth what was paid to one on an early DAY, nothing (but the way) to one on a late DAY.
        TollsBack x = Check.realm("towns 2;road 0 to 1 toll 3 summer 5 days 1;road 0 to 1 toll 1 days 1;"
                + "summer 10 to 20;year 30;late 0;");
        int[] days = {10, 9, 9, 10, 9};
        for (int i = 0; i < 5; i++) {
            x.comes(100);
            x.rest(i, days[i]);
        }
        C.due("all at HOME without SLIPS", x.partner(0), -1);
        for (int i = 0; i < 4; i++) {
            x.go(i, 0);
        }
        C.due("change brings one as much as it takes", x.partner(0), -1);
        x.rest(0, 100);
        C.due("his way", x.cheapest(0, 0), 0);
        C.due("he loses nothing", x.gain(0, 1, 0), 0);
        C.due("the other one gains 2", x.gain(0, 1, 1), 2);
        C.due("the first of like ones", x.partner(0), 1);
        C.due("and the other way", x.partner(1), 0);
        C.due("for the third too", x.partner(2), 0);
        C.due("both together nothing", x.partner(3), -1);
        x.go(4, 1);
        C.due("the fifth gains 4", x.gain(0, 4, 1), 4);
        C.due("who gains most", x.partner(0), 4);
        x.go(4, 1);
        C.due("the fifth is elsewhere", x.partner(0), 1);
        C.due("alone at HOME", x.partner(4), -1);
        x.go(1, 0);
        C.due("the second is elsewhere", x.partner(0), 2);
        x.change(0, 2);
        C.due("nothing more is gained", x.partner(0), -1);
        C.due("partner(5)", x.partner(5), -2);
        C.due("partner(-1)", x.partner(-1), -2);
    }

    private static void cheapest() {
        TollsBack x = Check.realm(REALM);
        x.comes(200);
        C.due("at HOME", x.cheapest(0, 0), 0);
        C.due("no ROADS", x.cheapest(0, 1), 0);
        x.go(0, 0);
        x.go(0, 1);
        C.due("both had back", x.cheapest(0, 0), -17);
        C.due("by two ROADS", x.cheapest(0, 1), 2);
        x.go(0, 2);
        C.due("at HOME with three SLIPS: round once more", x.cheapest(0, 0), -47);
        C.due("by three", x.cheapest(0, 1), 3);
        x.close(2, true);
        C.due("the top one tossed; to TOWN 1 for 10, to 2 for 7, both back", x.cheapest(0, 0), 0);
        C.due("or none at all", x.cheapest(0, 1), 0);
        x.rest(0, 90);
        C.due("tolls as on his DAY", x.summer(x.of(0, 1)), 1);
        x.close(2, false);
        x.toss(0);
        x.toss(0);
        C.due("at HOME with the first SLIP: 20 there, 10 back", x.cheapest(0, 0), 0);
        C.due("cheapest(0, 2)", x.cheapest(0, 2), -2);
        C.due("cheapest(0, -1)", x.cheapest(0, -1), -2);
        C.due("cheapest(1, 0)", x.cheapest(1, 0), -2);
        TollsBack y = Check.realm("towns 3;road 0 to 1 toll 0 days 1;road 1 to 2 toll 0 days 1;road 2 to 0 toll 0 days 9;");
        y.comes(0);
        y.go(0, 0);
        y.go(0, 1);
        C.due("all free", y.cheapest(0, 0), 0);
        C.due("the fewest ROADS", y.cheapest(0, 1), 1);
        C.due("no PURSE asked", cheapestOfThePoor(), 30);
    }

    private static int cheapestOfThePoor() {
        TollsBack x = Check.realm(REALM);
        x.comes(30);
        x.go(0, 2);
        x.toss(0);
        C.due("no coin", x.of(0, 2), 0);
        x.close(1, true);
        return x.cheapest(0, 0);
    }

    private static void cheapestNoWay() {
        TollsBack x = Check.realm(REALM);
        x.comes(100);
        x.comes(100);
        x.go(0, 0);
        x.close(0, true);
        x.close(1, true);
        C.due("no way", x.cheapest(0, 0), -1000000);
        C.due("no ROADS", x.cheapest(0, 1), -1);
        C.due("the other is at HOME", x.cheapest(1, 0), 0);
        C.due("price to one at HOME", x.price(0, 1), 0);
        C.due("gain of the first", x.gain(0, 1, 0), -1000000);
        C.due("partner", x.partner(0), -1);
        x.go(1, 2);
        x.close(2, true);
        C.due("price to one without a way", x.price(0, 1), -1000000);
        C.due("gain of the second", x.gain(0, 1, 1), -1000000);
    }

    private static void price() {
        TollsBack x = Check.realm(REALM);
        x.comes(200);
        x.comes(200);
        x.go(0, 0);
        x.go(0, 1);
        C.due("one at HOME would go for it: 17 there, 7 back, 10 home", x.price(0, 1), 0);
        x.go(1, 0);
        C.due("7 there, 7 back: nothing won", x.price(0, 1), 0);
        x.go(1, 1);
        C.due("that one stands there: 7 more than with his own", x.price(0, 1), 0);
        x.toss(1);
        C.due("his own is gone: home by 30 less, or by 7 and 10", x.cheapest(1, 0), -3);
        C.due("7 back in place of 7 paid", x.price(0, 1), 14);
        C.due("late for that one", lateForThatOne(), 7 + 2);
        C.due("himself", x.price(0, 0), -2);
        C.due("price(0, 2)", x.price(0, 2), -2);
        C.due("price(-1, 0)", x.price(-1, 0), -2);
        x.toss(1);
        C.due("no SLIP", x.price(1, 0), -5);
        C.due("nothing stays", x.of(0, 3), 2);
        TollsBack y = Check.realm(PAIR);
        y.comes(1000);
        y.comes(100);
        for (int k = 0; k < 40; k++) {
            y.go(0, k % 2);
        }
        C.due("no SLIP is told first", y.price(1, 0), -5);
        y.go(1, 0);
        C.due("the other one has 40", y.price(1, 0), -4);
    }

    /** A SLIP of 7 is worth 2 to one on a late DAY who pays 7 else. */
    private static int lateForThatOne() {
        TollsBack x = Check.realm("towns 3;road 0 to 1 toll 10 days 5;road 1 to 2 toll 7 days 3;year 100;late 40;");
        x.comes(200);
        x.comes(200);
        x.go(0, 0);
        x.go(0, 1);
        x.go(1, 0);
        x.go(1, 1);
        x.toss(1);
        x.toss(1);
        x.rest(1, 500);
        C.due("17 to pay", x.cheapest(1, 0), 17);
        return x.price(0, 1);
    }

    private static void gain() {
        TollsBack x = Check.realm(REALM);
        x.comes(200);
        x.comes(200);
        x.go(0, 0);
        x.go(0, 1);
        C.due("the first has none then: 17 in place of -17", x.gain(0, 1, 0), -34);
        C.due("the second, at HOME, wins nothing", x.gain(0, 1, 1), 0);
        x.go(1, 2);
        C.due("he would have 30 in place of 17", x.gain(0, 1, 0), 13);
        C.due("and that one 17 in place of 30", x.gain(0, 1, 1), -13);
        C.due("the other way about", x.gain(1, 0, 0), -13);
        C.due("gain(0, 1, 2)", x.gain(0, 1, 2), -2);
        C.due("gain(0, 1, -1)", x.gain(0, 1, -1), -2);
        C.due("himself", x.gain(1, 1, 0), -2);
        C.due("gain(0, 2, 0)", x.gain(0, 2, 0), -2);
        C.due("gain(2, 0, 0)", x.gain(2, 0, 0), -2);
        C.due("nothing stays", x.of(0, 3), 2);
    }

    private static void dueTour(TollsBack x, String name, int wanted, int n, int coins, int... roads) {
        C.due(name, x.through(0, wanted, n, 0), coins);
        C.due(name + ": GOINGS", x.through(0, wanted, n, 1), roads.length);
        for (int k = 0; k < 8; k++) {
            C.due(name + ": ROAD " + k, x.through(0, wanted, n, 10 + k), k < roads.length ? roads[k] : -1);
        }
    }

    private static void dueNoTour(TollsBack x, String name, int wanted, int n) {
        C.due(name, x.through(0, wanted, n, 0), -1000000);
        C.due(name + ": GOINGS", x.through(0, wanted, n, 1), -1);
        C.due(name + ": ROAD 0", x.through(0, wanted, n, 10), -1);
    }

    private static void through() {
        TollsBack x = Check.realm(REALM);
        x.comes(100);
        dueTour(x, "nowhere", 0, 8, 0);
        dueTour(x, "at HOME", 1, 0, 0);
        dueTour(x, "there and back", 2, 2, 0, 0, 0);
        dueNoTour(x, "not in one", 2, 1);
        dueNoTour(x, "not in none", 2, 0);
        dueTour(x, "all, the first by ROADS", 7, 4, 0, 0, 0, 2, 2);
        dueTour(x, "all in three: round", 7, 3, -47, 0, 1, 2);
        dueTour(x, "two, by the shorter", 4, 8, 0, 2, 2);
        x.close(2, true);
        dueTour(x, "two, one closed", 4, 8, 0, 0, 1, 1, 0);
        x.close(2, false);
        C.due("TOWNS", x.through(0, 8, 1, 0), -3);
        C.due("TOWNS below 0", x.through(0, -1, 1, 0), -3);
        C.due("n", x.through(0, 1, 9, 0), -3);
        C.due("n below 0", x.through(0, 1, -1, 0), -3);
        for (int what : new int[] {-1, 2, 9, 18}) {
            C.due("what " + what, x.through(0, 99, 99, what), -2);
        }
        C.due("no TRAVELLER", x.through(1, 99, 1, 0), -2);
        C.due("nothing stays", x.of(0, 1) + x.of(0, 3) + x.treasury(0), 0);
        TollsBack y = Check.realm(REALM);
        y.comes(16);
        dueNoTour(y, "the PURSE is asked", 7, 8);
        y.go(0, 0);
        dueTour(y, "where he begins counts; what he has back", 2, 8, 10, 0);
        TollsBack z = Check.realm("towns 2;road 0 to 1 toll 10 days 50;year 49;late 30;");
        z.comes(20);
        dueTour(z, "days go by: late", 2, 8, -7, 0, 0);
        TollsBack w = Check.realm("towns 2;road 0 to 1 toll 10 summer 4 days 90;year 360;");
        w.comes(20);
        w.go(0, 0);
        w.toss(0);
        dueTour(w, "home in summer: 4", 0, 1, -4, 0);
        dueNoTour(w, "not at HOME", 0, 0);
    }

    private static void throughFull() {
        // Ten free ROADS between two TOWNS: all rows can be; 10 + .. + 10^5 = 111110 GOINGS.
        TollsBack x = Check.realm(Realms.manyRoads(10, "toll0days1"));
        x.comes(0);
        dueTour(x, "11110 GOINGS", 2, 4, 0, 0, 0);
        C.due("111110 GOINGS", x.through(0, 2, 5, 0), -4);
        C.due("FULL, what 1", x.through(0, 0, 8, 1), -4);
        C.due("FULL, what 17", x.through(0, 0, 8, 17), -4);
        C.due("TOWNS are told first", x.through(0, 4, 8, 0), -3);
        x.close(9, true);
        C.due("9 ROADS: 66429 GOINGS", x.through(0, 2, 5, 1), 2);
        C.due("9 ROADS: 597870 GOINGS", x.through(0, 2, 6, 1), -4);
        for (int r = 1; r < 9; r++) {
            x.close(r, true);
        }
        C.due("one ROAD, eight GOINGS", x.through(0, 2, 8, 1), 2);
    }

    private static void journeys() {
        TollsBack x = Check.realm(REALM);
        C.due("no ROW", x.journeys(4, 0), -2);
        C.due("MISSING", x.journeys(0, 41), -6);
        Check.row(x, 0);
        int[] round = {1, 0, 2, 0, 6, 0, 20};
        for (int n = 0; n < round.length; n++) {
            C.due("home again in " + n, x.journeys(0, n), round[n]);
        }
        C.due("n below 0", x.journeys(0, -1), -3);
        C.due("n above 40", x.journeys(0, 41), -3);
        Check.row(x, 0, 0, 2, 4);
        C.due("round once", x.journeys(0, 3), 1);
        C.due("not in four", x.journeys(0, 4), 0);
        C.due("in five: a step aside at each of 5 places", x.journeys(0, 5), 5);
        x.close(1, true);
        C.due("a closed one among them", x.journeys(0, 3), 0);
        Check.row(x, 0);
        C.due("home again in 4 by what is open", x.journeys(0, 4), 4);
        Check.row(x, 0, 0, 0);
        C.due("a ROW that can't be", x.journeys(0, 2), 0);
        Check.row(x, 0, 0, 1);
        C.due("turned about", x.journeys(0, 2), 0);
        Check.row(x, 0, 6);
        C.due("no ROAD", x.journeys(0, 1), -3);
        Check.row(x, 0, -1);
        C.due("below 0", x.journeys(0, 1), -3);
        Check.row(x, 0, (1L << 32));
        C.due("far above", x.journeys(0, 1), -3);
    }

    private static BigInteger choose(int n, int k) {
        BigInteger c = BigInteger.ONE;
        for (int i = 0; i < k; i++) {
            c = c.multiply(BigInteger.valueOf(n - i)).divide(BigInteger.valueOf(i + 1));
        }
        return c;
    }

    /** Two ROADS between two TOWNS: SLIPS are a place on a line, JOURNEYS go one left or right. */
    private static void journeysOfMany() {
        TollsBack x = Check.realm(PAIR);
        for (int n = 0; n <= 40; n++) {
            for (int size = 0; size <= 40; size += 1 + size / 4) {
                Check.row(x, 0, Check.byTurns(size, 0, 3));
                BigInteger due = size > n || (n - size) % 2 != 0 ? BigInteger.ZERO : choose(n, (n - size) / 2);
                C.due("line " + n + " " + size, x.journeys(0, n), due.mod(BigInteger.valueOf(1000000007)).intValue());
            }
        }
        Check.row(x, 0);
        C.due("C(40, 20) modulo", x.journeys(0, 40), 846527861);
        C.due("there are more than any k", x.journey(0, 40, Integer.MAX_VALUE, 0), 0);
        C.due("k-th far on", lineRoad(40, 0, Integer.MAX_VALUE, 39), x.journey(0, 40, Integer.MAX_VALUE, 39));
        for (int i = 0; i < 40; i++) {
            int k = 1234567890 + i * 17;
            C.due("line's ROAD " + i, x.journey(0, 40, k, i), lineRoad(40, 0, k, i));
        }
        C.due("C(40, 20) modulo, once more", x.journeys(0, 40), 846527861);
        for (int size = 1; size <= 40; size++) {
            Check.row(x, 1, Check.byTurns(size, 0, 3));
            C.due("all of a straight one", x.journey(1, size, 0, size - 1), (size - 1) % 2);
            C.due("there is but one", x.journey(1, size, 1, 0), -1);
        }
    }

    /** ROAD i of the k-th row of n steps on the line that end at a place right of 0. */
    private static int lineRoad(int n, int place, int k, int i) {
        BigInteger left = BigInteger.valueOf(k);
        int at = 0;
        for (int step = 0; step < n; step++) {
            // By ROAD 0 one goes right from even places, left from odd ones.
            int to = at % 2 == 0 ? at + 1 : at - 1;
            int rest = n - step - 1;
            int away = Math.abs(place - to);
            BigInteger many = away > rest || (rest - away) % 2 != 0 ? BigInteger.ZERO : choose(rest, (rest - away) / 2);
            int road = left.compareTo(many) < 0 ? 0 : 1;
            if (road == 1) {
                left = left.subtract(many);
                to = at % 2 == 0 ? at - 1 : at + 1;
            }
            if (step == i) {
                return road;
            }
            at = to;
        }
        return -1;
    }

    private static void forged() {
        TollsBack x = Check.realm(REALM);
        C.due("no ROW", x.forged(-1), -2);
        C.due("MISSING", x.forged(0), -6);
        dueForged(x, -1);
        dueForged(x, -1, 0);
        dueForged(x, 0, 1);
        dueForged(x, 0, 2);
        dueForged(x, -1, 5);
        dueForged(x, -1, 0, 2, 4, 0);
        dueForged(x, 2, 0, 2, 0);
        dueForged(x, 1, 0, 1);
        dueForged(x, 2, 5, 3, 2);
        dueForged(x, -3, 0, 6);
        dueForged(x, -3, 1, 2, -1);
        dueForged(x, -3, 1, Long.MAX_VALUE);
        dueForged(x, -3, 256);
        x.close(0, true);
        dueForged(x, -1, 0, 2);
        TollsBack y = Check.realm("towns 2;home 1;road 0 to 1 toll 1 days 1;road 0 to 1 toll 1 days 1;");
        dueForged(y, -1, 1);
        dueForged(y, 0, 0);
        dueForged(y, -1, 1, 2);
        dueForged(y, 1, 1, 0);
        dueForged(y, 1, 3, 2);
    }

    private static void dueForged(TollsBack x, int want, long... slips) {
        Check.row(x, 2, slips);
        C.due("forged " + java.util.Arrays.toString(slips), x.forged(2), want);
    }

    private static void journey() {
        TollsBack x = Check.realm(REALM);
        C.due("no ROW", x.journey(4, 1, 0, 0), -2);
        C.due("MISSING", x.journey(0, 41, -1, 0), -6);
        Check.row(x, 0);
        int[][] fours = {{0, 0, 0, 0}, {0, 0, 2, 2}, {0, 1, 1, 0}, {2, 1, 1, 2}, {2, 2, 0, 0}, {2, 2, 2, 2}};
        for (int k = 0; k < 6; k++) {
            for (int i = 0; i < 4; i++) {
                C.due("journey(0, 4, " + k + ", " + i + ")", x.journey(0, 4, k, i), fours[k][i]);
            }
        }
        C.due("not so many", x.journey(0, 4, 6, 0), -1);
        C.due("i is n", x.journey(0, 4, 0, 4), -1);
        C.due("i below 0", x.journey(0, 4, 0, -1), -1);
        C.due("n 0", x.journey(0, 0, 0, 0), -1);
        C.due("none of odd length", x.journey(0, 3, 0, 0), -1);
        C.due("n", x.journey(0, 41, 0, 0), -3);
        C.due("n below 0", x.journey(0, -1, 0, 0), -3);
        C.due("k below 0", x.journey(0, 4, -1, 9), -3);
        x.close(1, true);
        C.due("a closed one is not gone by", x.journey(0, 4, 2, 0), 2);
        C.due("then there are four", x.journey(0, 4, 4, 0), -1);
        Check.row(x, 0, 9);
        C.due("no ROAD", x.journey(0, 1, 0, 0), -3);
        Check.row(x, 0, 0, 1);
        C.due("it can't be", x.journey(0, 2, 0, 0), -1);
    }

    private static void dueLane(TollsBack x, String name, int one, int other, int day, int[] sums, int... roads) {
        for (int what = 0; what < 3; what++) {
            C.due(name + " what " + what, x.lane(one, other, day, what), sums[what]);
        }
        for (int k = 0; k < 11; k++) {
            C.due(name + " ROAD " + k, x.lane(one, other, day, 10 + k), k < roads.length ? roads[k] : -1);
        }
    }

    private static void lane() {
        TollsBack x = Check.realm(REALM);
        dueLane(x, "winter", 0, 2, 0, new int[] {17, 8, 2}, 0, 1);
        dueLane(x, "summer", 0, 2, 90, new int[] {27, 8, 2}, 0, 1);
        dueLane(x, "back", 2, 0, 0, new int[] {17, 8, 2}, 1, 0);
        dueLane(x, "none to go", 1, 1, 0, new int[] {0, 0, 0});
        x.close(1, true);
        dueLane(x, "the other way", 0, 2, 0, new int[] {30, 1, 1}, 2);
        x.close(2, true);
        for (int what : new int[] {0, 1, 2, 10, 20}) {
            C.due("there is none", x.lane(0, 2, 0, what), -1);
        }
        for (int what : new int[] {-1, 3, 9, 21}) {
            C.due("what " + what, x.lane(0, 1, -1, what), -2);
        }
        C.due("no TOWN", x.lane(3, 0, -1, 0), -2);
        C.due("no other TOWN", x.lane(0, -1, 0, 0), -2);
        C.due("DAY", x.lane(0, 1, -1, 0), -3);
        TollsBack y = Check.realm("towns 4;road 0 to 3 toll 6 days 9;road 0 to 1 toll 3 days 4;"
                + "road 1 to 3 toll 3 days 4;road 0 to 2 toll 2 days 4;road 2 to 3 toll 4 days 4;"
                + "road 0 to 3 toll 6 days 8;road 0 to 1 toll 3 days 4;");
        dueLane(y, "like tolls, like days: the fewest ROADS", 0, 3, 0, new int[] {6, 8, 1}, 5);
        y.close(5, true);
        dueLane(y, "the fewest days; the first by ROADS", 0, 3, 0, new int[] {6, 8, 2}, 1, 2);
        dueLane(y, "the first from the other end", 3, 0, 0, new int[] {6, 8, 2}, 2, 1);
        y.close(1, true);
        dueLane(y, "3 ahead of 6", 0, 3, 0, new int[] {6, 8, 2}, 3, 4);
        y.close(3, true);
        dueLane(y, "the one that is left", 0, 3, 0, new int[] {6, 8, 2}, 6, 2);
        y.close(2, true);
        dueLane(y, "more days", 0, 3, 0, new int[] {6, 9, 1}, 0);
        TollsBack z = Check.realm(Realms.longRow());
        dueLane(z, "the longest", 0, 11, 0, new int[] {10989, 990, 11}, 0, 1, 2, 3, 4, 5, 6, 7, 8, 9, 10);
    }

    private static void box() {
        TollsBack x = Check.realm(REALM);
        C.due("nothing", x.box(0), 0);
        C.due("HOME", x.box(1), 0);
        C.due("1 by way of 2", x.box(2), 8);
        C.due("2", x.box(4), 2);
        C.due("all", x.box(7), 8);
        C.due("TOWNS", x.box(8), -3);
        C.due("below 0", x.box(-1), -3);
        x.close(1, true);
        C.due("one closed", x.box(6), 12);
        x.close(0, true);
        C.due("there is none", x.box(2), -1);
        C.due("2 as before", x.box(5), 2);
        // A star: three TOWNS by way of one that is not wanted.
        TollsBack y = Check.realm("towns 5;road 0 to 1 toll 1 days 5;road 0 to 2 toll 1 days 5;road 0 to 3 toll 1 days 5;"
                + "road 4 to 0 toll 1 days 3;road 4 to 1 toll 1 days 3;road 4 to 2 toll 1 days 3;road 4 to 3 toll 1 days 3;"
                + "road 4 to 3 toll 1 days 2;");
        C.due("one", y.box(2), 10);
        C.due("two", y.box(6), 18);
        C.due("three", y.box(14), 22);
        C.due("the shorter of two ROADS", y.box(8), 10);
        C.due("all", y.box(31), 22);
        StringBuilder t = new StringBuilder("towns12;home5;");
        for (int r = 0; r < 11; r++) {
            t.append("road").append(r).append("to").append(r + 1).append("toll9days90;");
        }
        C.due("a long row", Check.realm(t.toString()).box(4095), 2 * 990);
    }

    private static void cutOff() {
        TollsBack x = Check.realm("towns 5;home 1;road 0 to 1 toll 1 days 1;road 1 to 2 toll 1 days 1;"
                + "road 2 to 0 toll 1 days 1;road 2 to 3 toll 1 days 1;");
        C.due("in a round", x.cutOff(0), 0);
        C.due("a bridge", x.cutOff(3), 8);
        x.close(2, true);
        C.due("no round any more", x.cutOff(0), 1);
        C.due("all behind it", x.cutOff(1), 12);
        C.due("closed itself", x.cutOff(2), 0);
        C.due("cutOff(4)", x.cutOff(4), -2);
        C.due("cutOff(-1)", x.cutOff(-1), -2);
        x.close(1, true);
        C.due("behind a closed one", x.cutOff(3), 0);
    }

    private static void ledger() {
        TollsBack x = Check.realm(REALM);
        x.comes(100);
        x.comes(100);
        x.go(0, 0);
        x.go(1, 2);
        x.go(0, 0);
        x.rest(0, 709);
        x.go(0, 0);
        x.rest(0, 995);
        x.go(0, 0);
        C.due("both on DAY 0", x.ledger(0, 0), 40);
        C.due("back on DAY 5", x.ledger(5, 5), -10);
        C.due("up to it", x.ledger(0, 5), 30);
        C.due("none between", x.ledger(6, 718), 0);
        C.due("on the last DAY", x.ledger(719, 719), 10);
        C.due("all", x.ledger(0, 719), 40);
        C.due("beyond it nothing is kept", x.treasury(0), 36);
        C.due("below 0", x.ledger(-1, 5), -3);
        C.due("above 719", x.ledger(5, 720), -3);
        C.due("far above", x.ledger(720, 720), -3);
        C.due("the second below the first", x.ledger(6, 5), -3);
    }

    private static void dueMeet(TollsBack x, String name, int row, int otherRow, int day, int town) {
        C.due(name + ": DAY", x.meet(0, row, 1, otherRow, 0), day);
        C.due(name + ": TOWN", x.meet(0, row, 1, otherRow, 1), town);
        C.due(name + ": DAY, turned", x.meet(1, otherRow, 0, row, 0), day);
        C.due(name + ": TOWN, turned", x.meet(1, otherRow, 0, row, 1), town);
    }

    private static void meet() {
        TollsBack x = Check.realm(REALM);
        x.comes(100);
        x.comes(100);
        Check.row(x, 0);
        Check.row(x, 1, 0, 1);
        Check.row(x, 2, 2, 1);
        dueMeet(x, "both where they are", 0, 0, 0, 0);
        dueMeet(x, "on the first DAY, setting out", 1, 2, 0, 0);
        x.rest(1, 1);
        // The first is in 0 on 0, in 1 on 5, in 2 from 8 on; the second in 0 on 1, in 2 on 2, in 1 from 5 on.
        dueMeet(x, "one comes when the other sets out", 1, 2, 5, 1);
        x.rest(1, 1);
        dueMeet(x, "never", 1, 2, -1, -1);
        // The second in 0 on 2, in 2 from 3 on.
        Check.row(x, 3, 2);
        dueMeet(x, "the first comes to the last one for ever", 1, 3, 8, 2);
        dueMeet(x, "the second comes later", 0, 0, 2, 0);
        Check.row(x, 3, 2, 0, 1);
        dueMeet(x, "till one can't be", 1, 3, 8, 2);
        C.due("himself", x.meet(0, 0, 0, 0, 0), -2);
        C.due("no TRAVELLER", x.meet(0, 0, 2, 0, 0), -2);
        C.due("no ROW", x.meet(0, 4, 1, 0, 0), -2);
        C.due("no other ROW", x.meet(0, 0, 1, -1, 0), -2);
        C.due("what", x.meet(0, 0, 1, 0, 2), -2);
        C.due("what below 0", x.meet(0, 0, 1, 0, -1), -2);
        C.due("nothing stays", x.treasury(1), 0);
        TollsBack y = Check.realm(REALM);
        y.comes(9);
        y.comes(100);
        Check.row(y, 0, 0);
        C.due("the other ROW is MISSING", y.meet(0, 0, 1, 1, 0), -6);
        C.due("the first ROW is MISSING", y.meet(0, 1, 1, 0, 0), -6);
        C.due("MISSING, what", y.meet(0, 1, 1, 0, 2), -2);
        y.rest(1, 3);
        Check.row(y, 1);
        dueMeet(y, "too poor to go", 0, 1, 3, 0);
    }

    private static void fair() {
        TollsBack x = Check.realm(REALM);
        x.comes(1000);
        int at = 0;
        int seed = 20261118;
        int[][] gates = {{0, 2}, {0, 1}, {1, 2}};
        int[][] ends = {{0, 1}, {1, 2}, {2, 0}};
        x.image(0);
        C.due("twelve times", x.fair(0, seed, 12), 12);
        int town = x.of(0, 0);
        int day = x.of(0, 1);
        int purse = x.of(0, 2);
        int treasure = x.treasury(0);
        x.restore(0);
        for (int k = 0; k < 12; k++) {
            seed = (int) (1103515245L * seed + 12345L);
            int r = gates[at][(seed >>> 16) % 2];
            x.go(0, r);
            at = ends[r][0] == at ? ends[r][1] : ends[r][0];
        }
        C.due("the same TOWN by hand", town, x.of(0, 0));
        C.due("the same DAY", day, x.of(0, 1));
        C.due("the same PURSE", purse, x.of(0, 2));
        C.due("the same TREASURY", treasure, x.treasury(0));
        C.due("none", x.fair(0, 1, 0), -3);
        C.due("too often", x.fair(0, 1, 41), -3);
        C.due("no TRAVELLER", x.fair(1, 1, 0), -2);
        TollsBack y = Check.realm(REALM);
        y.comes(15);
        y.close(2, true);
        int went = y.fair(0, 3, 40);
        C.holds("it ends at the first that can't be: 7 on top of 10 is too dear", went < 40);
        C.due("which is in TOWN 1", y.of(0, 0), 1);
        C.due("where 5 are left", y.of(0, 2), 5);
        C.due("after so many there and back", y.of(0, 1), 5 * went);
        TollsBack z = Check.realm("towns 3;road 0 to 1 toll 1 days 1;");
        z.comes(10);
        C.due("one ROAD: there and back", z.fair(0, -5, 40), 40);
        C.due("home", z.of(0, 0), 0);
        z.close(0, true);
        C.due("no ROAD", z.fair(0, -5, 40), 0);
    }
}

/** Promises 2 to 9: THE TAPE, THE KINGDOM and its FAULTS, ROADS and seasons. */
public final class KingdomTest {
    private static final String REALM = "towns 3;road 0 to 1 toll 10 summer 20 days 5;"
            + "road 1 to 2 toll 7 days 3;road 2 to 0 toll 30 summer 3 days 1;year 100;late 40;";

    private static final Check C = new Check("KingdomTest");

    public static void main(String[] args) {
        feed();
        kingdom();
        goodTexts();
        faults();
        tooManyRoads();
        allStaysWithAFault();
        newKingdomBeginsAnew();
        road();
        from();
        close();
        when();
        summer();
        C.end();
    }

    private static void feed() {
        TollsBack x = new TollsBack();
        for (int bytes = 20; bytes <= 700; bytes += 20) {
            C.due("feed", x.feed(0, 0, 0, 0, 0), bytes);
        }
        C.due("feed beyond 700", x.feed(0, 0, 0, 0, 0), -5);
        C.due("count(7) when full", x.count(7), 700);
        C.due("kingdom(700)", x.kingdom(700), -31);
        C.due("count(7) after it", x.count(7), 0);
        C.due("feed again", x.feed(0, 0, 0, 0, 0), 20);
        TollsBack y = new TollsBack();
        // "year 7;late 9;" with the highest byte of each int first.
        y.feed(0x79656172, 0x20373b6c, 0x61746520, 0x393b2020, 0x20202020);
        C.due("kingdom of bytes", y.kingdom(20), 2);
        C.due("its year", y.count(4), 7);
        C.due("its late", y.count(5), 9);
    }

    private static void kingdom() {
        TollsBack x = new TollsBack();
        Check.feed(x, "year 7;year 8;      ");
        C.due("kingdom(-1)", x.kingdom(-1), -3);
        C.due("kingdom(21)", x.kingdom(21), -3);
        C.due("kingdom(MIN)", x.kingdom(Integer.MIN_VALUE), -3);
        C.due("the tape stays", x.count(7), 20);
        C.due("kingdom(7) takes the first bytes", x.kingdom(7), 1);
        C.due("the tape is empty then", x.count(7), 0);
        C.due("year", x.count(4), 7);
        C.due("kingdom(1) of nothing", x.kingdom(1), -3);
        C.due("kingdom(0)", x.kingdom(0), 0);
        C.due("year without", x.count(4), 360);
        C.due("LINES", x.count(8), 0);
    }

    private static void goodTexts() {
        C.good("", 0);
        C.good(" \n ", 0);
        C.good("towns 2;", 1);
        C.good("towns 12;home 11;", 2);
        C.good("towns2;home1;", 2);
        C.good("\ntowns\n2 ; home 01\n;", 2);
        C.good("year 1;year 360;late 0;late 100;", 4);
        C.good("year 007;", 1);
        C.good("summer 0 to 359;summer 5 to 5;summer 359 to 359;", 3);
        C.good("year 5;late 5;summer 1 to 2;towns 2;road 0 to 1 toll 0 days 1;", 5);
        C.good("towns 3;road 2 to 0 toll 999 summer 0 days 90;road 0 to 2 toll 0 summer 999 days 1;", 3);
        C.good("towns3;road2to0toll9summer8days7;", 2);
        TollsBack x = Check.realm("late 1;year 2;towns 3;home 2;summer 3 to 4;late 5;year 6;home 1;summer 7 to 8;");
        C.due("the later home strikes", x.count(3), 1);
        C.due("the later year strikes", x.count(4), 6);
        C.due("the later late strikes", x.count(5), 5);
        C.due("the later summer strikes: 3", x.summer(3), 0);
        C.due("the later summer strikes: 7", x.summer(7), 1);
        C.due("LINES", x.count(8), 9);
    }

    private static void faults() {
        for (String sign : new String[] {"A", "\t", "\r", ",", "-", "{", "`", "/", ":", "\u00e9", "\0", "\u00ff"}) {
            C.bad(1, "year 5;^" + sign);
            C.bad(1, "year ^" + sign + "5;");
            C.bad(1, "year 5^" + sign + ";");
        }
        C.bad(1, "year ^1234;");
        C.bad(1, "year ^0001;");
        C.bad(1, "^99999999999999999999;");
        C.bad(1, "year 5 ^1000");
        C.bad(2, "year 5^");
        C.bad(2, "year 5  \n^");
        C.bad(2, "year^");
        C.bad(2, "^;");
        C.bad(2, "year 5;^;");
        C.bad(2, "^5;");
        C.bad(2, "^years 5;");
        C.bad(2, "^yea 5;");
        C.bad(2, "^to 5;");
        C.bad(2, "^fear 5;");
        C.bad(2, "^yeas 5;");
        C.bad(2, "summer 5 ^so 6;");
        C.bad(2, "year ^year;");
        C.bad(2, "year ^;");
        C.bad(2, "year 5 ^5;");
        C.bad(2, "year 5^a;");
        C.bad(2, "^home 0;towns 2;");
        C.bad(2, "^road 0 to 1 toll 1 days 1;");
        C.bad(2, "summer 5 ^;");
        C.bad(2, "summer 5 ^6;");
        C.bad(2, "summer 5 to ^to;");
        C.bad(2, "towns 2;road 0 ^1;");
        C.bad(2, "towns 2;road 0 to 1 ^days 1;");
        C.bad(2, "towns 2;road 0 to 1 toll ^days 1;");
        C.bad(2, "towns 2;road 0 to 1 toll 1 ^toll 1 days 1;");
        C.bad(2, "towns 2;road 0 to 1 toll 1 ^;");
        C.bad(2, "towns 2;road 0 to 1 toll 1 summer 2 ^summer 2 days 1;");
        C.bad(2, "towns 2;road 0 to 1 toll 1 summer ^days 1;");
        C.bad(2, "towns 2;road 0 to 1 toll 1 days 1 ^summer 2;");
        C.bad(2, "towns 2;road 0 to 1 toll 1 days^");
        C.bad(3, "towns ^1;");
        C.bad(3, "towns ^13;");
        C.bad(3, "towns 2;home ^2;");
        C.bad(3, "year ^0;");
        C.bad(3, "year ^361;");
        C.bad(3, "late ^101;");
        C.bad(3, "summer ^360 to 2;");
        C.bad(3, "summer 5 to ^4;");
        C.bad(3, "summer 5 to ^360;");
        C.bad(3, "towns 2;road ^2 to 0 toll 1 days 1;");
        C.bad(3, "towns 2;road 0 to ^2 toll 1 days 1;");
        C.bad(3, "towns 2;road 1 to ^1 toll 1 days 1;");
        C.bad(3, "towns 2;road 0 to 1 toll 1 days ^0;");
        C.bad(3, "towns 2;road 0 to 1 toll 1 days ^91;");
        C.bad(3, "year ^400 5 5555;");
        C.bad(4, "towns 2;^towns 2;");
        C.bad(4, "towns 2;year 3;^towns 99");
    }

    private static void tooManyRoads() {
        StringBuilder roads = new StringBuilder("towns2;");
        for (int r = 0; r < 24; r++) {
            roads.append("road0to1toll").append(r).append("days1;");
        }
        C.good(roads.toString(), 25);
        C.bad(4, roads + "^road 9");
        C.bad(2, roads + "year 5;^x");
        C.due("ROADS", Check.realm(roads.toString()).count(1), 24);
        C.due("from(0)", Check.realm(roads.toString()).from(0), (1 << 24) - 1);
    }

    private static void allStaysWithAFault() {
        TollsBack x = Check.realm(REALM);
        x.comes(100);
        x.go(0, 0);
        x.close(1, true);
        C.due("a FAULT", Check.kingdom(x, "towns 2;year 5;home 1;road 0 to 1 toll 1 days 1;x"), -32);
        C.due("TOWNS stay", x.count(0), 3);
        C.due("ROADS stay", x.count(1), 3);
        C.due("HOME stays", x.count(3), 0);
        C.due("year stays", x.count(4), 100);
        C.due("closed stay", x.count(6), 1);
        C.due("LINES stay", x.count(8), 6);
        C.due("tolls stay", x.road(0, 2), 10);
        C.due("the tape is empty", x.count(7), 0);
        C.due("TRAVELLERS stay", x.of(0, 2), 90);
        C.due("THE TREASURY stays", x.treasury(0), 10);
        C.due("THE LEDGER stays", x.ledger(0, 0), 10);
        C.due("-3 is not read", x.kingdom(5), -3);
        C.due("so the FAULT stays", x.fault(0), 2);
        C.due("and its place", x.fault(1), 48);
        x.kingdom(0);
        C.due("a good one has none", x.fault(0), 0);
        C.due("nor a place", x.fault(1), -1);
    }

    private static void newKingdomBeginsAnew() {
        TollsBack x = Check.realm(REALM);
        x.comes(100);
        x.go(0, 0);
        x.close(1, true);
        x.image(0);
        Check.row(x, 1, 5);
        C.due("the same again", Check.kingdom(x, REALM), 6);
        C.due("no TRAVELLERS", x.count(2), 0);
        C.due("of(0, 0)", x.of(0, 0), -2);
        C.due("all open", x.count(6), 0);
        C.due("road(1, 5)", x.road(1, 5), 0);
        C.due("THE TREASURY is empty", x.treasury(0), 0);
        C.due("no SLIPS", x.treasury(1), 0);
        C.due("it OWES nothing", x.owes(0), 0);
        C.due("THE LEDGER is empty", x.ledger(0, 719), 0);
        C.due("ROWS stay", x.write(1, 1, 0), -7);
        C.due("comes", x.comes(5), 0);
        C.due("a new one is at HOME", x.of(0, 0), 0);
        C.due("his DAY", x.of(0, 1), 0);
        C.due("he paid", x.of(0, 4), 0);
        C.due("IMAGES stay", x.restore(0), 0);
        C.due("as it was", x.of(0, 0), 1);
    }

    private static void road() {
        TollsBack x = Check.realm(REALM);
        int[][] due = {{0, 1, 10, 20, 5, 0}, {1, 2, 7, 7, 3, 0}, {2, 0, 30, 3, 1, 0}};
        for (int r = 0; r < 3; r++) {
            for (int what = 0; what < 6; what++) {
                C.due("road(" + r + ", " + what + ")", x.road(r, what), due[r][what]);
            }
            C.due("road(r, 6)", x.road(r, 6), -2);
            C.due("road(r, -1)", x.road(r, -1), -2);
        }
        x.close(2, true);
        C.due("road(2, 5)", x.road(2, 5), 1);
        C.due("road(3, 0)", x.road(3, 0), -2);
        C.due("road(-1, 0)", x.road(-1, 0), -2);
        C.due("road(24, 0)", x.road(24, 0), -2);
    }

    private static void from() {
        TollsBack x = Check.realm(REALM);
        C.due("from(0)", x.from(0), 5);
        C.due("from(1)", x.from(1), 3);
        C.due("from(2)", x.from(2), 6);
        x.close(0, true);
        C.due("from(0), 0 closed", x.from(0), 4);
        C.due("from(1), 0 closed", x.from(1), 2);
        C.due("from(3)", x.from(3), -2);
        C.due("from(-1)", x.from(-1), -2);
        C.due("a TOWN without ROADS", Check.realm("towns 2;").from(1), 0);
    }

    private static void close() {
        TollsBack x = Check.realm(REALM);
        C.due("close(1, false) of an open one", x.close(1, false), 0);
        C.due("close(1, true)", x.close(1, true), 0);
        C.due("close(1, true) again", x.close(1, true), 1);
        C.due("close(0, true)", x.close(0, true), 0);
        C.due("count(6)", x.count(6), 2);
        C.due("close(1, false)", x.close(1, false), 1);
        C.due("close(1, false) again", x.close(1, false), 0);
        C.due("count(6) then", x.count(6), 1);
        C.due("close(3, true)", x.close(3, true), -2);
        C.due("close(-1, true)", x.close(-1, true), -2);
        C.due("close(32, true)", x.close(32, true), -2);
        C.due("count(6) at last", x.count(6), 1);
    }

    private static void when() {
        TollsBack x = Check.realm(REALM);
        C.due("dearer in summer, ahead of it", x.when(0, 89), 89);
        C.due("dearer in summer, in it", x.when(0, 90), 270);
        C.due("in the next year's", x.when(0, 450), 630);
        C.due("behind it", x.when(0, 270), 270);
        C.due("one toll", x.when(1, 100), 100);
        C.due("cheaper in summer", x.when(2, 0), 90);
        C.due("cheaper in summer, in it", x.when(2, 269), 269);
        C.due("cheaper in summer, behind it", x.when(2, 270), 450);
        C.due("the last DAY", x.when(2, 99999), 99999 + 90 + 360 - 99999 % 360);
        C.due("beyond it", x.when(2, 100000), -3);
        C.due("below 0", x.when(2, -1), -3);
        C.due("no ROAD", x.when(3, -1), -2);
        C.due("no ROAD below 0", x.when(-1, 0), -2);
        x.close(2, true);
        C.due("closed or not", x.when(2, 0), 90);
        TollsBack y = Check.realm("towns 2;summer 0 to 359;road 0 to 1 toll 5 summer 9 days 1;");
        C.due("summer all year", y.when(0, 77), 77);
    }

    private static void summer() {
        TollsBack x = Check.realm("summer 10 to 20;");
        int[] days = {9, 10, 20, 21, 369, 370, 380, 381, 0, 36010, Integer.MAX_VALUE};
        int[] due = {0, 1, 1, 0, 0, 1, 1, 0, 0, 1, Integer.MAX_VALUE % 360 >= 10 && Integer.MAX_VALUE % 360 <= 20 ? 1 : 0};
        for (int i = 0; i < days.length; i++) {
            C.due("summer(" + days[i] + ")", x.summer(days[i]), due[i]);
        }
        C.due("summer(-1)", x.summer(-1), -3);
        C.due("summer(MIN)", x.summer(Integer.MIN_VALUE), -3);
    }
}

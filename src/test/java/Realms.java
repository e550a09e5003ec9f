/** Kingdoms that several tests share. */
final class Realms {
    /** A round of three TOWNS: dearer in summer, like all year, cheaper in summer. */
    static final String ROUND = "towns 3;road 0 to 1 toll 10 summer 20 days 5;"
            + "road 1 to 2 toll 7 days 3;road 2 to 0 toll 30 summer 3 days 1;year 100;late 40;";
    /** Two TOWNS and two ROADS between them: free, and for 9 coins. */
    static final String PAIR = "towns 2;road 0 to 1 toll 0 days 1;road 1 to 0 toll 9 days 2;";
    /** Five TOWNS in a row. */
    static final String LINE = "towns 5;road 0 to 1 toll 1 days 1;road 1 to 2 toll 2 days 2;"
            + "road 2 to 3 toll 3 days 3;road 3 to 4 toll 4 days 4;";

    static final int MIN = Integer.MIN_VALUE;
    static final int MAX = Integer.MAX_VALUE;

    private Realms() {
    }

    /**
     * ROUND with three TRAVELLERS: the first in TOWN 2 on DAY 8 with SLIPS of ROADS 0 and 1 and 83
     * coins, the second in TOWN 2 on DAY 1 with one of ROAD 2 and 20 coins, the third at HOME with
     * nothing. ROAD 1 is closed. ROW 0 has 0 and 1, ROW 1 has 2, 1 and 0, ROW 2 no number, ROW 3 is
     * MISSING; IMAGE 0 was made. The latest text had a FAULT.
     */
    static TollsBack onTheWay() {
        TollsBack x = Check.busyRealm(ROUND);
        x.comes(100);
        x.comes(50);
        x.comes(0);
        x.go(0, 0);
        x.go(0, 1);
        x.go(1, 2);
        x.close(1, true);
        return x;
    }

    /** onTheWay() with 20 bytes on THE TAPE. */
    static TollsBack busy() {
        TollsBack x = onTheWay();
        Check.feed(x, "year 77;");
        return x;
    }

    /** busy() with a tape that is full. */
    static TollsBack fullTape() {
        TollsBack x = busy();
        Check.feed(x, "late 7;".repeat(97));
        return x;
    }

    /** busy() with three more TRAVELLERS: six. */
    static TollsBack fullHouse() {
        TollsBack x = busy();
        x.comes(1);
        x.comes(2);
        x.comes(3);
        return x;
    }

    /** A KINGDOM without TOWNS, and all else that there can be. */
    static TollsBack noTowns() {
        TollsBack x = Check.busyRealm("year 5;late 6;");
        Check.feed(x, "year 77;");
        return x;
    }

    /** PAIR with a TRAVELLER at HOME who has 40 SLIPS (of ROADS 0 and 1 by turns), 9 coins and no more. */
    static TollsBack withForty() {
        TollsBack x = Check.realm(PAIR);
        x.comes(189);
        for (int k = 0; k < 40; k++) {
            x.go(0, k % 2);
        }
        return x;
    }

    /** Many ROADS between two TOWNS. */
    static String manyRoads(int roads, String tollAndDays) {
        StringBuilder t = new StringBuilder("towns2;");
        for (int r = 0; r < roads; r++) {
            t.append("road0to1").append(tollAndDays).append(";");
        }
        return t.toString();
    }

    /** Free ROADS of a day, each told by its TOWNS as two digits. */
    static String freeRoads(int towns, int... ends) {
        StringBuilder t = new StringBuilder("towns").append(towns).append(";");
        for (int e : ends) {
            t.append("road").append(e / 10).append("to").append(e % 10).append("toll0days1;");
        }
        return t.toString();
    }

    /** All 12 TOWNS in a row, each ROAD as dear and long as can be. */
    static String longRow() {
        StringBuilder t = new StringBuilder("towns12;");
        for (int r = 0; r < 11; r++) {
            t.append("road").append(r).append("to").append(r + 1).append("toll999days90;");
        }
        return t.toString();
    }
}

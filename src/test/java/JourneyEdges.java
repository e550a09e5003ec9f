import java.util.ArrayList;
import java.util.Arrays;
import java.util.HashMap;
import java.util.List;
import java.util.Map;

/** The edges that the document names of JOURNEYS, LANES, BOXES, THE LEDGER, FAIRS: promises 32 to 40. */
final class JourneyEdges {
    private static final int MIN = Realms.MIN;
    private static final int MAX = Realms.MAX;

    private final Check c;

    JourneyEdges(Check c) {
        this.c = c;
    }

    void all() {
        journeys();
        journeysModulo();
        journeysRefused();
        forged();
        forgedRefused();
        journey();
        journeyRefused();
        lane();
        laneOfLikeOnes();
        laneRefused();
        box();
        cutOff();
        ledger();
        meet();
        meetRefused();
        fair();
        draws();
    }

    private void dueJourneys(TollsBack x, int n, long want, long... slips) {
        Check.row(x, 3, slips);
        c.due("journeys " + Arrays.toString(slips) + " in " + n, x.journeys(3, n), want);
    }

    private void journeys() {
        c.says(Check.TERMS, "JOURNEYS that leave a ROW of SLIPS (twice a ROAD's number, and 1 if it was gone from its second "
                + "TOWN to its first, from the bottom up): how many rows of n open ROADS (0 to 40) one can go from HOME, "
                + "coins aside, so that just these SLIPS are open then;");
        c.says(32, "JOURNEYS of n ROADS that leave a ROW of SLIPS.");
        TollsBack x = Check.realm(Realms.ROUND);
        int[] home = {1, 0, 2, 0, 6, 0, 20};
        for (int n = 0; n < home.length; n++) {
            dueJourneys(x, n, home[n]);
        }
        dueJourneys(x, 1, 1, 0);
        dueJourneys(x, 1, 1, 5);
        dueJourneys(x, 1, 0, 4);
        dueJourneys(x, 1, 0, 1);
        dueJourneys(x, 0, 0, 0);
        dueJourneys(x, 3, 3, 0);
        dueJourneys(x, 3, 1, 0, 2, 4);
        dueJourneys(x, 2, 0, 0, 1);
        x.close(1, true);
        dueJourneys(x, 3, 0, 0, 2, 4);
        dueJourneys(x, 2, 0, 0, 2);
        dueJourneys(x, 1, 1, 0);
        dueJourneys(x, 4, 4);
        x.close(0, true);
        x.close(2, true);
        dueJourneys(x, 0, 1);
        dueJourneys(x, 2, 0);
        TollsBack y = Check.realm(Realms.PAIR);
        dueJourneys(y, 40, 1, Check.byTurns(40, 0, 2));
        dueJourneys(y, 39, 0, Check.byTurns(40, 0, 2));
        dueJourneys(y, 40, 40, Check.byTurns(38, 0, 2));
        dueJourneys(y, 40, 0, Check.byTurns(39, 0, 2));
        dueJourneys(y, 39, 1, Check.byTurns(39, 3, 1));
        TollsBack z = Check.realm("towns 2;");
        dueJourneys(z, 0, 1);
        dueJourneys(z, 40, 0);
        TollsBack w = Check.realm("towns 2;road 0 to 1 toll 999 days 90;");
        dueJourneys(w, 40, 1);
        dueJourneys(w, 39, 1, 0);
    }

    private void journeysModulo() {
        c.says(Check.TERMS, "modulo 1,000,000,007.");
        TollsBack x = Check.realm(Realms.PAIR);
        dueJourneys(x, 32, 601080390);
        dueJourneys(x, 33, 166803103, 0);
        dueJourneys(x, 33, 166803103, 3);
        dueJourneys(x, 40, 137846528820L % 1000000007);
        TollsBack y = Check.realm(Realms.manyRoads(24, "toll0days1"));
        // Out by any of 24; then back by that one, or on by another one and back by that.
        dueJourneys(y, 2, 24);
        dueJourneys(y, 4, 24 * 24 + 24 * 23);
        dueJourneys(y, 40, roundsOf(24), new long[0]);
    }

    /** How many JOURNEYS of 40 are home again by so many ROADS between two TOWNS: counted by their SLIPS. */
    private static long roundsOf(int roads) {
        long[] deep = new long[42];
        deep[0] = 1;
        for (int step = 0; step < 40; step++) {
            long[] then = new long[42];
            for (int k = 0; k <= 40; k++) {
                then[k + 1] = (then[k + 1] + deep[k] * (k == 0 ? roads : roads - 1)) % 1000000007;
                if (k > 0) {
                    then[k - 1] = (then[k - 1] + deep[k]) % 1000000007;
                }
            }
            deep = then;
        }
        return deep[0];
    }

    private static TollsBack noTownsButRows() {
        TollsBack x = Realms.noTowns();
        Check.row(x, 2, -1);
        return x;
    }

    /** ROUND, a ROW of SLIPS that can be, one of no ROAD, one below 0; the last is MISSING. */
    private static TollsBack slips() {
        TollsBack x = Realms.busy();
        Check.row(x, 0, 0, 2, 4);
        Check.row(x, 1, 0, 6);
        Check.row(x, 2, -1);
        return x;
    }

    private void journeysRefused() {
        c.says(32, "-2: the ROW; -5: no TOWNS; -6; -3: a SLIP of no ROAD, n.");
        c.on(JourneyEdges::slips);
        c.stayAll("journeys(#, 3)", (x, row) -> x.journeys(row, 3), -2, -1, 4, MIN, MAX);
        c.stayAll("journeys(4, #)", (x, n) -> x.journeys(4, n), -2, -1, 41);
        c.stayAll("journeys(3, #)", (x, n) -> x.journeys(3, n), -6, 0, -1, 41);
        c.stayAll("journeys(0, #)", (x, n) -> x.journeys(0, n), -3, -1, 41, MIN, MAX);
        c.stayAll("journeys(1, #)", (x, n) -> x.journeys(1, n), -3, 0, 2, 40, 41);
        c.stayAll("journeys(2, #)", (x, n) -> x.journeys(2, n), -3, 0, 1, -1);
        c.stayAll("journeys(0, #)", (x, n) -> x.journeys(0, n), 0, 0, 2, 40);
        TollsBack z = Check.realm(Realms.ROUND);
        dueJourneys(z, 40, 0, 2);
        dueJourneys(z, 41, -3, 2);
        dueJourneys(z, -1, -3, 2);
        c.on(JourneyEdges::noTownsButRows);
        c.stayAll("without TOWNS: journeys(#, 0)", (x, row) -> x.journeys(row, 0), -5, 0, 2, 3);
        c.stayAll("without TOWNS: journeys(#, 41)", (x, row) -> x.journeys(row, 41), -5, 0, 2, 3);
        c.stayAll("without TOWNS: journeys(#, 0)", (x, row) -> x.journeys(row, 0), -2, -1, 4);
        TollsBack y = Check.realm(Realms.manyRoads(24, "toll0days1"));
        dueJourneys(y, 1, 1, 46);
        dueJourneys(y, 1, 0, 47);
        dueJourneys(y, 2, 1, 46, 45);
        dueJourneys(y, 1, -3, 48);
        dueJourneys(y, 1, -3, 1L << 32);
        dueJourneys(y, 1, -3, Long.MIN_VALUE);
    }

    private void dueForged(TollsBack x, int want, long... slips) {
        Check.row(x, 3, slips);
        c.due("forged " + Arrays.toString(slips), x.forged(3), want);
    }

    private void forged() {
        c.says(Check.TERMS, "A ROW of SLIPS CAN BE, if each begins where the one below it ended (the first at HOME) and none "
                + "is the one below it turned about.");
        c.says(33, "The first place at which a ROW of SLIPS can't be; NONE: it CAN BE.");
        TollsBack x = Check.realm(Realms.ROUND);
        dueForged(x, -1);
        dueForged(x, -1, 0);
        dueForged(x, -1, 5);
        dueForged(x, 0, 1);
        dueForged(x, 0, 2);
        dueForged(x, 0, 3, 0);
        dueForged(x, -1, 0, 2, 4, 0);
        dueForged(x, 1, 0, 3);
        dueForged(x, 1, 0, 0);
        dueForged(x, 1, 0, 1);
        dueForged(x, 2, 0, 2, 3);
        dueForged(x, 3, 5, 3, 1, 2);
        x.close(0, true);
        dueForged(x, -1, 0, 2);
        TollsBack y = Check.realm("towns 2;home 1;road 0 to 1 toll 1 days 1;road 0 to 1 toll 1 days 1;");
        dueForged(y, 0, 0);
        dueForged(y, -1, 1);
        dueForged(y, -1, 1, 2);
        dueForged(y, 1, 1, 0);
        dueForged(y, -1, Check.byTurns(40, 1, 2));
        long[] turned = Check.byTurns(40, 1, 2);
        turned[39] = 0;
        dueForged(y, 39, turned);
        TollsBack z = Realms.busy();
        c.due("his SLIPS", z.numbers(3, 0, 2) + z.copy(0, 3), 2);
        c.due("they can be, closed or not", z.forged(3), -1);
    }

    private void forgedRefused() {
        c.says(33, "-2: the ROW; -5: no TOWNS; -6; -3: a SLIP of no ROAD.");
        c.on(JourneyEdges::slips);
        c.stayAll("forged(#)", TollsBack::forged, -2, -1, 4, MIN, MAX);
        c.stays("forged(3)", x -> x.forged(3), -6);
        c.stays("forged(1)", x -> x.forged(1), -3);
        c.stays("forged(2)", x -> x.forged(2), -3);
        c.stays("forged(0)", x -> x.forged(0), -1);
        c.on(JourneyEdges::noTownsButRows);
        c.stayAll("without TOWNS: forged(#)", TollsBack::forged, -5, 0, 1, 2, 3);
        c.stayAll("without TOWNS: forged(#)", TollsBack::forged, -2, -1, 4);
        TollsBack y = Check.realm(Realms.ROUND);
        dueForged(y, 0, 2, 5);
        dueForged(y, -3, 2, 6);
        dueForged(y, -3, 2, -1);
        dueForged(y, -3, 0, 256);
        dueForged(y, -3, Long.MAX_VALUE);
    }

    private void journey() {
        c.says(34, "Of the k-th of these JOURNEYS, in the order of ROADS (k from 0 on), ROAD i. NONE: not so many, "
                + "i isn't 0 to n less 1;");
        TollsBack x = Check.realm(Realms.ROUND);
        Check.row(x, 0);
        int[][] fours = {{0, 0, 0, 0}, {0, 0, 2, 2}, {0, 1, 1, 0}, {2, 1, 1, 2}, {2, 2, 0, 0}, {2, 2, 2, 2}};
        for (int k = 0; k < 6; k++) {
            int of = k;
            c.dueEach("journey(0, 4, " + k + ", #)", i -> x.journey(0, 4, of, i), fours[k][0], fours[k][1], fours[k][2],
                    fours[k][3], -1);
        }
        Check.row(x, 0, 5);
        c.due("the only way to a SLIP", x.journey(0, 1, 0, 0), 2);
        inOrder("towns 5;road 0 to 1 toll 1 days 1;road 2 to 1 toll 1 days 1;road 1 to 3 toll 1 days 1;"
                + "road 4 to 3 toll 1 days 1;", new int[][] {{0, 1}, {2, 1}, {1, 3}, {4, 3}});
        inOrder(Realms.ROUND + "home 1;", new int[][] {{0, 1}, {1, 2}, {2, 0}});
        c.on(() -> {
            TollsBack y = Check.busyRealm(Realms.ROUND);
            Check.row(y, 0);
            Check.row(y, 1, 0, 1);
            return y;
        });
        c.stayAll("not so many: journey(0, 4, #, 0)", (y, k) -> y.journey(0, 4, k, 0), -1, 6, 7, 1000000007, MAX);
        c.stayAll("journey(0, 4, 5, #)", (y, i) -> y.journey(0, 4, 5, i), -1, -1, 4, 39, 40, MIN, MAX);
        c.stayAll("none of no length: journey(0, 0, 0, #)", (y, i) -> y.journey(0, 0, 0, i), -1, -1, 0, 1);
        c.stays("none of odd length", y -> y.journey(0, 3, 0, 0), -1);
        c.stays("a ROW that can't be", y -> y.journey(1, 2, 0, 0), -1);
        TollsBack z = Check.realm(Realms.PAIR);
        Check.row(z, 0, Check.byTurns(40, 0, 2));
        for (int i = 0; i < 40; i++) {
            c.due("all forty: ROAD " + i, z.journey(0, 40, 0, i), i % 2);
        }
        c.due("there is but one", z.journey(0, 40, 1, 0), -1);
        Check.row(z, 0, Check.byTurns(38, 0, 2));
        c.due("the fortieth of forty", z.journey(0, 40, 39, 0), 1);
        c.due("a forty-first", z.journey(0, 40, 40, 0), -1);
        Check.row(z, 0);
        c.due("more than modulo: the first", z.journey(0, 40, 0, 39), 0);
        c.due("more than modulo: MAX", z.journey(0, 40, MAX, 0), 0);
        c.due("the last of C(30, 15)", z.journey(0, 30, 155117519, 0), 1);
        c.due("one more", z.journey(0, 30, 155117520, 0), -1);
        Check.row(z, 0, 0);
        c.due("the last of C(33, 16), above modulo", z.journey(0, 33, 1166803109, 0), 1);
        c.due("one more", z.journey(0, 33, 1166803110, 0), -1);
        c.due("how many, modulo", z.journeys(0, 33), 166803103);
    }

    /** All JOURNEYS of up to five ROADS, found by going all rows of ROADS in their order. */
    private void inOrder(String text, int[][] ends) {
        TollsBack x = Check.realm(text);
        Map<List<Integer>, List<int[]>> found = new HashMap<>();
        for (int n = 0; n <= 5; n++) {
            found.clear();
            int rows = 1;
            for (int i = 0; i < n; i++) {
                rows *= ends.length;
            }
            for (int k = 0; k < rows; k++) {
                int[] row = new int[n];
                int left = k;
                for (int i = n - 1; i >= 0; i--) {
                    row[i] = left % ends.length;
                    left /= ends.length;
                }
                List<Integer> slips = gone(row, ends, x.count(3));
                if (slips != null) {
                    found.computeIfAbsent(slips, s -> new ArrayList<>()).add(row);
                }
            }
            for (List<Integer> slips : found.keySet()) {
                Check.row(x, 3, slips.stream().mapToLong(m -> m).toArray());
                List<int[]> due = found.get(slips);
                c.due("so many leave " + slips, x.journeys(3, n), due.size());
                for (int k = 0; k <= due.size(); k++) {
                    for (int i = 0; i < n; i++) {
                        c.due("the " + k + "-th that leaves " + slips, x.journey(3, n, k, i), k < due.size() ? due.get(k)[i] : -1);
                    }
                }
            }
        }
    }

    /** The SLIPS that are open when a row of ROADS has been gone, null if it can't be gone. */
    private static List<Integer> gone(int[] row, int[][] ends, int home) {
        List<Integer> slips = new ArrayList<>();
        int town = home;
        for (int r : row) {
            if (ends[r][0] != town && ends[r][1] != town) {
                return null;
            }
            int mark = ends[r][0] == town ? 2 * r : 2 * r + 1;
            if (!slips.isEmpty() && slips.get(slips.size() - 1) == (mark ^ 1)) {
                slips.remove(slips.size() - 1);
            } else {
                slips.add(mark);
            }
            town = ends[r][0] == town ? ends[r][1] : ends[r][0];
        }
        return slips;
    }

    private void journeyRefused() {
        c.says(34, "-2: the ROW; -5: no TOWNS; -6; -3: a SLIP of no ROAD, n, k below 0.");
        c.on(JourneyEdges::slips);
        c.stayAll("journey(#, 3, 0, 0)", (x, row) -> x.journey(row, 3, 0, 0), -2, -1, 4, MIN, MAX);
        c.stays("journey(4, 41, -1, 0)", x -> x.journey(4, 41, -1, 0), -2);
        c.stays("journey(3, 3, 0, 0)", x -> x.journey(3, 3, 0, 0), -6);
        c.stays("journey(3, 41, -1, 0)", x -> x.journey(3, 41, -1, 0), -6);
        c.stays("journey(1, 2, 0, 0)", x -> x.journey(1, 2, 0, 0), -3);
        c.stays("journey(2, 1, 0, 0)", x -> x.journey(2, 1, 0, 0), -3);
        c.stayAll("journey(0, #, 0, 0)", (x, n) -> x.journey(0, n, 0, 0), -3, -1, 41, MIN, MAX);
        c.stayAll("journey(0, 3, #, 0)", (x, k) -> x.journey(0, 3, k, 0), -3, -1, MIN);
        c.stays("journey(0, 40, 0, 0)", x -> x.journey(0, 40, 0, 0), -1);
        c.stays("a number that can't be is told, if i isn't one: journey(0, 41, 0, -1)", x -> x.journey(0, 41, 0, -1), -3);
        c.on(JourneyEdges::noTownsButRows);
        c.stayAll("without TOWNS: journey(#, 1, 0, 0)", (x, row) -> x.journey(row, 1, 0, 0), -5, 0, 2, 3);
        c.stays("without TOWNS: journey(2, 41, -1, 0)", x -> x.journey(2, 41, -1, 0), -5);
        c.stayAll("without TOWNS: journey(#, 1, 0, 0)", (x, row) -> x.journey(row, 1, 0, 0), -2, -1, 4);
    }

    private void dueLane(String name, TollsBack x, int one, int other, int day, int tolls, int days, int... roads) {
        c.dueEach(name + ": lane(" + one + ", " + other + ", " + day + ", #)", what -> x.lane(one, other, day, what),
                tolls, days, roads.length);
        for (int k = 0; k < 11; k++) {
            c.due(name + ": ROAD " + k, x.lane(one, other, day, 10 + k), k < roads.length ? roads[k] : -1);
        }
    }

    private void lane() {
        c.says(Check.TERMS, "A LANE from a TOWN to another one on a DAY: of all rows of open ROADS that lead there that with "
                + "the least sum of tolls of that DAY,");
        c.says(35, "A LANE, what 0: tolls, 1: days, 2: ROADS, 10 + k: its ROAD k.");
        TollsBack x = Check.realm(Realms.ROUND);
        dueLane("two", x, 0, 2, 89, 17, 8, 0, 1);
        dueLane("summer: one", x, 0, 2, 90, 3, 1, 2);
        dueLane("the last of summer", x, 0, 2, 269, 3, 1, 2);
        dueLane("behind summer", x, 2, 0, 270, 17, 8, 1, 0);
        dueLane("the last DAY is in summer", x, 0, 2, MAX, 3, 1, 2);
        dueLane("to the same one", x, 1, 1, 0, 0, 0);
        x.close(0, true);
        dueLane("one is closed", x, 0, 1, 0, 37, 4, 2, 1);
        TollsBack y = Check.realm(Realms.longRow());
        dueLane("eleven", y, 0, 11, 0, 10989, 990, 0, 1, 2, 3, 4, 5, 6, 7, 8, 9, 10);
        dueLane("eleven back", y, 11, 0, 0, 10989, 990, 10, 9, 8, 7, 6, 5, 4, 3, 2, 1, 0);
        dueLane("the last", y, 11, 10, 0, 999, 90, 10);
    }

    private void laneOfLikeOnes() {
        c.says(Check.TERMS, "of like ones the fewest days, then the fewest ROADS, then the first by ROADS.");
        TollsBack x = Check.realm("towns 4;road 0 to 3 toll 6 days 9;road 0 to 1 toll 3 days 4;road 1 to 3 toll 3 days 4;"
                + "road 0 to 2 toll 2 days 4;road 2 to 3 toll 4 days 4;road 0 to 3 toll 6 days 8;road 0 to 1 toll 3 days 4;"
                + "road 0 to 3 toll 7 days 1;");
        dueLane("the fewest ROADS of like days", x, 0, 3, 0, 6, 8, 5);
        x.close(5, true);
        dueLane("the fewest days of like tolls, the first by ROADS", x, 0, 3, 0, 6, 8, 1, 2);
        dueLane("the first by ROADS from there", x, 3, 0, 0, 6, 8, 2, 1);
        x.close(1, true);
        dueLane("3 comes ahead of 6", x, 0, 3, 0, 6, 8, 3, 4);
        dueLane("2 comes ahead of 4", x, 3, 0, 0, 6, 8, 2, 6);
        x.close(4, true);
        dueLane("6", x, 0, 3, 0, 6, 8, 6, 2);
        x.close(6, true);
        dueLane("more days for less toll", x, 0, 3, 0, 6, 9, 0);
        x.close(0, true);
        dueLane("more toll for fewer days", x, 0, 3, 0, 7, 1, 7);
    }

    private void laneRefused() {
        c.says(35, "NONE: there is none, not so many; -2: TOWNS, what (10 to 20); -3: the DAY is below 0.");
        c.on(() -> {
            TollsBack x = Realms.busy();
            x.close(2, true);
            return x;
        });
        c.stayAll("there is none: lane(0, 2, 0, #)", (x, what) -> x.lane(0, 2, 0, what), -1, 0, 1, 2, 10, 20);
        c.stayAll("not so many: lane(0, 1, 0, #)", (x, what) -> x.lane(0, 1, 0, what), -1, 11, 12, 20);
        c.stayAll("not so many: lane(2, 2, 0, #)", (x, what) -> x.lane(2, 2, 0, what), -1, 10, 20);
        c.stayAll("lane(#, 1, 0, 0)", (x, one) -> x.lane(one, 1, 0, 0), -2, -1, 3, MIN, MAX);
        c.stayAll("lane(1, #, -1, 0)", (x, other) -> x.lane(1, other, -1, 0), -2, -1, 3, MIN, MAX);
        c.stayAll("lane(0, 1, 0, #)", (x, what) -> x.lane(0, 1, 0, what), -2, -1, 3, 9, 21, MIN, MAX);
        c.stayAll("lane(0, 2, -1, #)", (x, what) -> x.lane(0, 2, -1, what), -2, -1, 3, 9, 21);
        c.stayAll("lane(0, 1, #, 0)", (x, day) -> x.lane(0, 1, day, 0), -3, -1, MIN);
        c.stayAll("lane(0, 2, #, 20)", (x, day) -> x.lane(0, 2, day, 20), -3, -1, MIN);
        c.stays("lane(0, 1, 0, 10)", x -> x.lane(0, 1, 0, 10), 0);
        c.on(Realms::noTowns);
        c.stays("without TOWNS", x -> x.lane(0, 0, 0, 0), -2);
    }

    private void box() {
        c.says(Check.TERMS, "A BOX for wanted TOWNS: the least days of a JOURNEY from HOME by open ROADS (coins aside) that "
                + "stands in all of them and ends at HOME, all SLIPS being had back.");
        c.says(36, "A BOX. NONE: there is none; -5: no TOWNS; -3: the TOWNS.");
        TollsBack x = Check.realm(Realms.ROUND);
        c.dueEach("round by 5, 3, 1 days: box(#)", x::box, 0, 0, 8, 8, 2, 2, 8, 8, -3);
        TollsBack y = Check.realm("towns 5;road 0 to 1 toll 1 days 5;road 0 to 2 toll 1 days 5;road 0 to 3 toll 1 days 5;"
                + "road 4 to 0 toll 1 days 3;road 4 to 1 toll 1 days 3;road 4 to 2 toll 1 days 3;road 4 to 3 toll 1 days 3;"
                + "road 4 to 3 toll 1 days 2;");
        c.due("one at once", y.box(2), 10);
        c.due("two by way of another one", y.box(6), 18);
        c.due("all but that one", y.box(14), 22);
        c.due("all", y.box(31), 22);
        y.close(7, true);
        c.due("the shortest is closed", y.box(14), 24);
        TollsBack w = Check.realm("towns 4;road 0 to 1 toll 1 days 1;road 1 to 2 toll 1 days 1;road 2 to 0 toll 1 days 1;"
                + "road 2 to 3 toll 1 days 9;");
        c.due("a round of short ones leads no further", w.box(15), 22);
        c.due("not all of the round is wanted", w.box(8), 20);
        c.due("a long row", Check.realm(Realms.longRow()).box(4095), 1980);
        c.due("its last", Check.realm(Realms.longRow()).box(2048), 1980);
        c.on(() -> {
            TollsBack z = Realms.busy();
            z.close(2, true);
            return z;
        });
        c.stayAll("box(#)", TollsBack::box, -1, 4, 5, 6, 7);
        c.stayAll("box(#)", TollsBack::box, 10, 2, 3);
        c.stayAll("box(#)", TollsBack::box, -3, -1, 8, 12, 4096, MIN, MAX);
        c.on(Realms::noTowns);
        c.stayAll("without TOWNS: box(#)", TollsBack::box, -5, 0, 1, -1, MAX);
        c.due("of twelve", Check.realm(Realms.longRow()).box(4096), -3);
    }

    private void cutOff() {
        c.says(Check.TERMS, "CUT OFF by a ROAD: TOWNS to which one can come from HOME by open ROADS, but not without that one.");
        c.says(37, "TOWNS CUT OFF by a ROAD, as bits. -2.");
        TollsBack x = Check.realm(Realms.LINE + "home 1;");
        c.dueEach("cutOff(#)", x::cutOff, 1, 28, 24, 16, -2);
        x.close(2, true);
        c.dueEach("closed: cutOff(#)", x::cutOff, 1, 4, 0, 0, -2);
        TollsBack y = Check.realm(Realms.ROUND);
        c.dueEach("round: cutOff(#)", y::cutOff, 0, 0, 0, -2);
        y.close(1, true);
        c.dueEach("no round: cutOff(#)", y::cutOff, 2, 0, 4, -2);
        TollsBack z = Check.realm(Realms.longRow() + "road 0 to 1 toll 0 days 1;");
        c.due("two ROADS between like TOWNS", z.cutOff(0), 0);
        c.due("all but two", z.cutOff(1), 4092);
        c.due("the last TOWN", z.cutOff(10), 2048);
        z.close(11, true);
        c.due("all but HOME", z.cutOff(0), 4094);
        c.on(Realms::busy);
        c.stayAll("cutOff(#)", TollsBack::cutOff, -2, -1, 3, 24, 32, MIN, MAX);
        c.stays("cutOff(0)", w -> w.cutOff(0), 2);
        c.stays("closed itself", w -> w.cutOff(1), 0);
    }

    private void ledger() {
        c.says(Check.TERMS, "THE LEDGER: of each DAY from 0 to 719 all that was paid, less all that was had back, on GOINGS set "
                + "out on that DAY.");
        c.says(38, "THE LEDGER's DAYS from one to one together. -3: not 0 to 719, the second below the first.");
        TollsBack x = Check.realm("towns 2;road 0 to 1 toll 5 days 1;");
        for (int i = 0; i < 4; i++) {
            x.comes(10);
        }
        x.go(0, 0);
        c.due("on DAY 0", x.ledger(0, 0), 5);
        c.due("none on DAY 1", x.ledger(1, 719), 0);
        x.rest(0, 718);
        x.go(0, 0);
        c.due("2 had back on DAY 719", x.ledger(719, 719), -2);
        c.due("together", x.ledger(0, 719), 3);
        x.rest(1, 719);
        x.go(1, 0);
        c.due("5 more on it", x.ledger(719, 719), 3);
        x.rest(2, 720);
        x.go(2, 0);
        c.due("none on DAY 720", x.ledger(0, 719), 8);
        c.due("though it was paid", x.treasury(0), 13);
        x.go(2, 0);
        x.rest(3, 718);
        x.go(3, 0);
        c.due("on DAY 718", x.ledger(718, 718), 5);
        c.due("the last two", x.ledger(718, 719), 8);
        c.due("all but the last", x.ledger(0, 718), 10);
        x.go(3, 0);
        c.due("had back on DAY 719", x.ledger(719, 719), -2);
        TollsBack z = Check.realm("towns 2;road 0 to 1 toll 0 days 1;");
        z.comes(0);
        z.go(0, 0);
        z.go(0, 0);
        c.due("nothing paid, nothing had back", z.ledger(0, 719), 0);
        c.due("nor has THE TREASURY anything", z.treasury(0), 0);
        c.on(Realms::busy);
        c.stayAll("ledger(#, 719)", (y, from) -> y.ledger(from, 719), -3, -1, 720, MIN, MAX);
        c.stayAll("ledger(0, #)", (y, to) -> y.ledger(0, to), -3, -1, 720, MIN, MAX);
        c.stays("ledger(1, 0)", y -> y.ledger(1, 0), -3);
        c.stays("ledger(719, 718)", y -> y.ledger(719, 718), -3);
        c.stays("ledger(720, 720)", y -> y.ledger(720, 720), -3);
        c.stays("ledger(0, 0)", y -> y.ledger(0, 0), 40);
        c.stays("ledger(0, 719)", y -> y.ledger(0, 719), 47);
        c.stays("ledger(719, 719)", y -> y.ledger(719, 719), 0);
    }

    private void dueMeet(String name, TollsBack x, int row, int otherRow, int day, int town) {
        c.dueEach(name + ": meet(0, " + row + ", 1, " + otherRow + ", #)", what -> x.meet(0, row, 1, otherRow, what), day, town);
        c.dueEach(name + ": meet(1, " + otherRow + ", 0, " + row + ", #)", what -> x.meet(1, otherRow, 0, row, what), day, town);
    }

    /** ROUND with two at HOME, the second on a DAY. ROWS: none; to 1 and 2; to 2; to 2 and 1. */
    private static TollsBack two(int day) {
        TollsBack x = Check.realm(Realms.ROUND);
        x.comes(100);
        x.comes(100);
        x.rest(1, day);
        Check.row(x, 0);
        Check.row(x, 1, 0, 1);
        Check.row(x, 2, 2);
        Check.row(x, 3, 2, 1);
        return x;
    }

    private void meet() {
        c.says(Check.TERMS, "Two MEET, if both go by ROWS (as JUDGED, each from his DAY on, till one can't be; none of both is in "
                + "the other's way): each is in a TOWN on the DAY on which he comes there or sets out, and in the last one for "
                + "ever: the first DAY on which both are in one TOWN.");
        c.says(39, "When two MEET, the first by the first ROW, the second by the second one, what 0: the DAY, 1: the TOWN.");
        dueMeet("both stay", two(0), 0, 0, 0, 0);
        dueMeet("on his DAY, not ahead of it", two(7), 0, 0, 7, 0);
        dueMeet("both set out", two(0), 1, 3, 0, 0);
        dueMeet("the first in 1 on 5, when the second comes there", two(1), 1, 3, 5, 1);
        // The first: 0 on 0, 1 on 5, 2 from 8 on. The second: 0 on 2, 2 from 3 on, or 2 on 3, 1 from 6 on.
        dueMeet("one comes to the other's last for ever", two(2), 1, 2, 8, 2);
        dueMeet("they pass", two(2), 1, 3, -1, -1);
        dueMeet("the first has gone on when the second comes", two(3), 1, 3, -1, -1);
        dueMeet("the first sets out from 1 when the second is in 2", two(4), 1, 2, 8, 2);
        dueMeet("the second comes to 2 later", two(8), 1, 2, 9, 2);
        dueMeet("the first sets out from 2 on 1", two(0), 3, 2, 0, 0);
        dueMeet("one stays at HOME, one sets out", two(9999), 0, 3, 9999, 0);
        dueMeet("one has left HOME, one comes to it for ever", two(9999), 2, 0, -1, -1);
        TollsBack x = two(2);
        Check.row(x, 3, 0, 1, 2, 2, 2, 99);
        dueMeet("till one can't be: -2, and then he is there for ever", x, 3, 2, 8, 2);
        x.close(1, true);
        dueMeet("till one can't be: -8", x, 1, 2, -1, -1);
        TollsBack y = two(0);
        y.go(1, 2);
        y.rest(1, 50);
        dueMeet("on one's DAY in TOWN 2, where the other is for ever", y, 2, 0, 51, 2);
        dueMeet("each in another TOWN", y, 0, 0, -1, -1);
        TollsBack z = Check.realm(Realms.ROUND);
        z.comes(9);
        z.comes(0);
        z.rest(1, 3);
        Check.row(z, 0, 0);
        dueMeet("till one can't be: -5, both", z, 0, 0, 3, 0);
        TollsBack v = Check.realm(Realms.PAIR);
        v.comes(0);
        v.comes(9);
        v.go(1, 1);
        v.rest(1, 5);
        Check.row(v, 0, 0, 0, 0);
        Check.row(v, 1);
        dueMeet("free ROADS", v, 0, 1, 7, 1);
        c.on(() -> two(1));
        c.stays("nothing stays", w -> w.meet(0, 1, 1, 3, 0), 5);
    }

    private void meetRefused() {
        c.says(39, "NONE: never; -2: one of both, both one, ROWS, what; -6.");
        c.on(() -> two(2));
        c.stayAll("never: meet(0, 1, 1, 3, #)", (x, what) -> x.meet(0, 1, 1, 3, what), -1, 0, 1);
        c.on(Realms::busy);
        c.stayAll("meet(#, 0, 1, 0, 0)", (x, i) -> x.meet(i, 0, 1, 0, 0), -2, -1, 1, 3, MIN, MAX);
        c.stayAll("meet(0, 0, #, 0, 0)", (x, o) -> x.meet(0, 0, o, 0, 0), -2, -1, 0, 3, MIN, MAX);
        c.stayAll("meet(0, #, 1, 0, 0)", (x, row) -> x.meet(0, row, 1, 0, 0), -2, -1, 4, MIN, MAX);
        c.stayAll("meet(0, 0, 1, #, 1)", (x, row) -> x.meet(0, 0, 1, row, 1), -2, -1, 4, MIN, MAX);
        c.stayAll("meet(0, 3, 1, 3, #)", (x, what) -> x.meet(0, 3, 1, 3, what), -2, -1, 2, MIN, MAX);
        c.stays("the first is MISSING", x -> x.meet(0, 3, 1, 0, 0), -6);
        c.stays("the second is MISSING", x -> x.meet(0, 0, 1, 3, 1), -6);
        c.stays("one is MISSING, one is none", x -> x.meet(0, 3, 1, 4, 1), -2);
        c.stays("both one, MISSING", x -> x.meet(0, 3, 0, 3, 1), -2);
        c.stays("one and the same ROW", x -> x.meet(0, 2, 1, 2, 0), 8);
    }

    private void fair() {
        c.says(40, "A FAIR: how many times he went (all stays so). -2; -3: how many times.");
        TollsBack x = Check.realm("towns 3;road 0 to 1 toll 1 days 1;");
        x.comes(1);
        c.due("once", x.fair(0, 0, 1), 1);
        c.dueEach("of(0, #)", what -> x.of(0, what), 1, 1, 0, 1, 1, 0);
        c.due("forty times, there and back", x.fair(0, 12345, 40), 40);
        c.dueEach("all stays so: of(0, #)", what -> x.of(0, what), 1, 41, 0, 1, 21, 20);
        c.due("THE TREASURY", x.treasury(0), 1);
        c.due("THE LEDGER", x.ledger(0, 0), 1);
        c.due("THE LEDGER, had back", x.ledger(1, 1), -1);
        c.on(Realms::busy);
        c.stayAll("fair(#, 1, 1)", (y, i) -> y.fair(i, 1, 1), -2, -1, 3, MIN, MAX);
        c.stayAll("fair(#, 1, 0)", (y, i) -> y.fair(i, 1, 0), -2, -1, 3);
        c.stayAll("fair(0, 1, #)", (y, times) -> y.fair(0, 1, times), -3, 0, -1, 41, MIN, MAX);
    }

    private void draws() {
        c.says(Check.TERMS, "A FAIR by a SEED (x, an int; a DRAW: x becomes 1103515245 x + 12345, it is x >>> 16): a TRAVELLER goes "
                + "so many times (1 to 40): DRAW modulo the number of open ROADS that lead from his TOWN (none: it ends), of "
                + "these by numbers; it ends at the first that can't be.");
        for (int seed : new int[] {0, 1, -1, 2, 77, 12345, 65535, 65536, 1 << 30, MIN, MIN + 1, MAX, MAX - 1}) {
            for (int roads : new int[] {1, 2, 3, 7, 24}) {
                TollsBack x = Check.realm(Realms.manyRoads(roads, "toll0days1"));
                x.comes(0);
                c.due("once by " + roads, x.fair(0, seed, 1), 1);
                c.due("the ROAD by seed " + seed, x.slip(0, 0, 0), draw(seed, 1) % roads);
                int first = (int) draw(seed, 1) % roads;
                int second = (int) draw(seed, 2) % roads;
                TollsBack y = Check.realm(Realms.manyRoads(roads, "toll0days1"));
                y.comes(0);
                y.fair(0, seed, 2);
                c.due("SLIPS by seed " + seed, y.of(0, 3), first == second ? 0 : 2);
                c.due("the top one's ROAD", y.slip(0, 1, 0), first == second ? -7 : second);
            }
        }
        TollsBack z = Check.realm(Realms.manyRoads(5, "toll0days1"));
        z.comes(0);
        z.close(0, true);
        z.close(3, true);
        z.fair(0, 77, 1);
        c.due("of the open ones by numbers", z.slip(0, 0, 0), new int[] {1, 2, 4}[(int) draw(77, 1) % 3]);
        c.on(() -> {
            TollsBack x = Realms.busy();
            x.close(0, true);
            x.close(2, true);
            return x;
        });
        c.stays("none is open", x -> x.fair(0, 1, 40), 0);
        c.on(Realms::busy);
        c.stays("the first can't be: too dear", x -> x.fair(2, 1, 40), 0);
        TollsBack w = Check.realm("towns 2;road 0 to 1 toll 0 days 1;road 0 to 1 toll 9 days 1;");
        w.comes(9);
        int went = w.fair(0, 3, 40);
        c.holds("it ends at the first that can't be", went > 0 && went < 40);
        c.due("so many days", w.of(0, 1), went);
        TollsBack v = Realms.withForty();
        c.due("forty SLIPS: a ROAD that isn't the top one's can't be", v.fair(0, seedOf(0, 2), 1), 0);
        c.due("the top one's can", v.fair(0, seedOf(1, 2), 1), 1);
        c.due("SLIPS", v.of(0, 3), 39);
    }

    /** The n-th DRAW by a SEED, by arithmetic of longs without a sign. */
    private static long draw(int seed, int n) {
        long x = seed & 0xffffffffL;
        for (int k = 0; k < n; k++) {
            x = (x * 1103515245L + 12345) & 0xffffffffL;
        }
        return x / 65536;
    }

    /** A SEED whose first DRAW is such a number, modulo so many. */
    private static int seedOf(int number, int modulo) {
        int seed = 0;
        while (draw(seed, 1) % modulo != number) {
            seed++;
        }
        return seed;
    }
}

import java.util.Arrays;

/** Tolls given back: a kingdom told as a text, its travellers, their slips, and the ways home. */
public final class TollsBack {
    /** There is none. */
    public static final int NONE = -1;

    private static final int NO_SUCH = -2;
    private static final int BAD_NUMBER = -3;
    private static final int FULL = -4;
    private static final int NOT_NOW = -5;
    private static final int MISSING = -6;
    private static final int NO_PLACE = -7;
    private static final int CLOSED = -8;
    private static final int ASTRAY = -9;
    private static final int FAULTY = -30;
    private static final int NO_WAY = -1000000;

    /** An answer of GOING from here on tells what was had back: no toll reaches it. */
    private static final int HAD_BACK = 1000;

    private static final int MOST_BYTES = 700;
    private static final int MOST_TOWNS = 12;
    private static final int MOST_ROADS = 24;
    private static final int MOST_TRAVELLERS = 6;
    private static final int MOST_SLIPS = 40;
    private static final int MOST_NUMBERS = 40;
    private static final int MOST_GOINGS = 8;
    private static final int MOST_TRIED = 100000;
    private static final int MOST_PURSE = 1000000;
    private static final int MOST_REST = 9999;
    private static final int LAST_DAY = 99999;
    private static final int LEDGER_DAYS = 720;
    private static final int SEASONS_DAYS = 360;
    private static final int ROWS = 4;
    private static final int IMAGES = 2;
    private static final int MODULUS = 1000000007;

    /** Answers from 10 on of through() and lane() are the ROADS of the way. */
    private static final int FIRST_ROAD = 10;

    private final byte[] tape = new byte[MOST_BYTES];
    private int taped = 0;
    private int faultKind = 0;
    private int faultPlace = NONE;
    private final World world = new World();
    private final World[] images = new World[IMAGES];
    private final Numbers[] rows = new Numbers[ROWS];
    private final Reader reader = new Reader();
    private final Traveller spare = new Traveller();
    private final Trip trip = new Trip();
    private final Trip otherTrip = new Trip();
    private final Retreat retreat = new Retreat();
    private final Ways ways = new Ways();
    private final Tour tour = new Tour();
    private final Counter counter = new Counter();
    private final Trees trees = new Trees();

    public TollsBack() {
        for (int row = 0; row < ROWS; row++) {
            rows[row] = new Numbers();
        }
    }

    // ---- the kingdom

    public int feed(int a, int b, int c, int d, int e) {
        if (taped + 20 > MOST_BYTES) {
            return NOT_NOW;
        }
        tapeInt(a);
        tapeInt(b);
        tapeInt(c);
        tapeInt(d);
        tapeInt(e);
        return taped;
    }

    private void tapeInt(int v) {
        for (int shift = 24; shift >= 0 && taped < MOST_BYTES; shift -= 8) {
            tape[taped] = (byte) (v >>> shift);
            taped++;
        }
    }

    public int kingdom(int n) {
        if (n < 0 || n > taped) {
            return BAD_NUMBER;
        }
        reader.read(tape, n);
        taped = 0;
        faultKind = reader.faultKind;
        faultPlace = reader.faultPlace;
        if (faultKind != 0) {
            return FAULTY - faultKind;
        }
        world.begin(reader.draft);
        return world.land.lines;
    }

    public int fault(int what) {
        switch (what) {
            case 0: return faultKind;
            case 1: return faultPlace;
            default: return NONE;
        }
    }

    public int road(int r, int what) {
        Kingdom land = world.land;
        if (!land.hasRoad(r)) {
            return NO_SUCH;
        }
        switch (what) {
            case 0: return land.one[r];
            case 1: return land.other[r];
            case 2: return land.toll[r];
            case 3: return land.summerToll[r];
            case 4: return land.days[r];
            case 5: return world.isOpen(r) ? 0 : 1;
            default: return NO_SUCH;
        }
    }

    public int from(int town) {
        return world.land.hasTown(town) ? world.openRoadsAt(town) : NO_SUCH;
    }

    public int close(int r, boolean closed) {
        if (!world.land.hasRoad(r)) {
            return NO_SUCH;
        }
        int before = world.isOpen(r) ? 0 : 1;
        world.shut(r, closed);
        return before;
    }

    public int when(int r, int day) {
        Kingdom land = world.land;
        if (!land.hasRoad(r)) {
            return NO_SUCH;
        }
        if (day < 0 || day > LAST_DAY) {
            return BAD_NUMBER;
        }
        int least = Math.min(land.toll[r], land.summerToll[r]);
        for (int d = day; d < day + SEASONS_DAYS; d++) {
            if (land.tollOn(r, d) == least) {
                return d;
            }
        }
        // A summer of all 360 days leaves one toll alone, be it the lesser or not.
        return day;
    }

    public int summer(int day) {
        if (day < 0) {
            return BAD_NUMBER;
        }
        return world.land.isSummer(day) ? 1 : 0;
    }

    // ---- travellers

    public int comes(int purse) {
        if (world.guests >= MOST_TRAVELLERS || world.land.towns == 0) {
            return NOT_NOW;
        }
        if (purse < 0 || purse > MOST_PURSE) {
            return BAD_NUMBER;
        }
        return world.welcome(purse);
    }

    public int of(int i, int what) {
        if (!world.hasTraveller(i)) {
            return NO_SUCH;
        }
        Traveller t = world.people[i];
        switch (what) {
            case 0: return t.town;
            case 1: return t.day;
            case 2: return t.purse;
            case 3: return t.slips;
            case 4: return t.paid;
            case 5: return t.hadBack;
            default: return NO_SUCH;
        }
    }

    public int slip(int i, int k, int what) {
        if (!world.hasTraveller(i) || what < 0 || what > 5) {
            return NO_SUCH;
        }
        Traveller t = world.people[i];
        if (k < 0 || k >= t.slips) {
            return NO_PLACE;
        }
        switch (what) {
            case 0: return t.mark[k] >> 1;
            case 1: return world.land.startOf(t.mark[k]);
            case 2: return world.land.endOf(t.mark[k]);
            case 3: return t.since[k];
            case 4: return t.cost[k];
            default: return world.land.worthOn(t, k, t.day);
        }
    }

    public int go(int i, int r) {
        if (!world.hasTraveller(i) || !world.land.hasRoad(r)) {
            return NO_SUCH;
        }
        return world.move(world.people[i], r);
    }

    public int toss(int i) {
        if (!world.hasTraveller(i)) {
            return NO_SUCH;
        }
        Traveller t = world.people[i];
        if (t.slips == 0) {
            return NOT_NOW;
        }
        t.slips--;
        return t.cost[t.slips];
    }

    public int rest(int i, int days) {
        if (!world.hasTraveller(i)) {
            return NO_SUCH;
        }
        if (days < 0 || days > MOST_REST) {
            return BAD_NUMBER;
        }
        Traveller t = world.people[i];
        if (t.day + days > LAST_DAY) {
            return NOT_NOW;
        }
        t.day += days;
        return t.day;
    }

    public int give(int i, int other, int coins) {
        if (!world.hasPair(i, other)) {
            return NO_SUCH;
        }
        Traveller giver = world.people[i];
        Traveller taker = world.people[other];
        if (giver.town != taker.town || giver.slips == 0) {
            return NOT_NOW;
        }
        if (coins < 0 || coins > taker.purse) {
            return BAD_NUMBER;
        }
        if (taker.slips >= MOST_SLIPS) {
            return FULL;
        }
        taker.takeTopOf(giver);
        giver.slips--;
        giver.purse += coins;
        taker.purse -= coins;
        return taker.slips;
    }

    public int change(int i, int other) {
        if (!world.hasPair(i, other)) {
            return NO_SUCH;
        }
        Traveller one = world.people[i];
        if (one.town != world.people[other].town) {
            return NOT_NOW;
        }
        one.swapSlips(world.people[other]);
        return one.slips;
    }

    public int judge(int i, int row, int what) {
        if (!world.hasTraveller(i) || !isRow(row) || what < 0 || what > 6) {
            return NO_SUCH;
        }
        if (rows[row].missing) {
            return MISSING;
        }
        Traveller t = world.people[i];
        trip.follow(world, t, rows[row], t.purse);
        switch (what) {
            case 0: return trip.why == 0 ? NONE : trip.went;
            case 1: return trip.why;
            case 2: return trip.walker.paid - t.paid;
            case 3: return trip.walker.hadBack - t.hadBack;
            case 4: return trip.walker.slips;
            case 5: return trip.walker.town;
            default: return trip.walker.day;
        }
    }

    public int perform(int i, int row) {
        if (!world.hasTraveller(i) || !isRow(row)) {
            return NO_SUCH;
        }
        if (rows[row].missing) {
            return MISSING;
        }
        Numbers roads = rows[row];
        int went = 0;
        while (went < roads.size && world.move(world.people[i], roads.smallAt(went)) >= 0) {
            went++;
        }
        return went;
    }

    // ---- the treasury

    public int treasury(int what) {
        switch (what) {
            case 0: return world.treasure;
            case 1: return world.allSlips();
            case 2: return world.lateSlips();
            default: return NONE;
        }
    }

    public int owes(int day) {
        return day < 0 ? BAD_NUMBER : world.debtOn(day);
    }

    public int lapse() {
        int first = world.firstSlipDay();
        return first == NONE ? NONE : first + world.land.year + 1;
    }

    public int blocked(int i) {
        if (!world.hasTraveller(i)) {
            return NO_SUCH;
        }
        Traveller t = world.people[i];
        for (int k = t.slips - 1; k >= 0; k--) {
            if (!world.isOpen(t.mark[k] >> 1)) {
                return k + 1;
            }
        }
        return 0;
    }

    // ---- home

    public int homeward(int i, int what) {
        if (!world.hasTraveller(i) || what < 0 || what > 2) {
            return NO_SUCH;
        }
        if (!retreat.follow(world, world.people[i])) {
            return NONE;
        }
        switch (what) {
            case 0: return retreat.coins;
            case 1: return retreat.days;
            default: return retreat.late;
        }
    }

    public int safe(int i) {
        if (!world.hasTraveller(i)) {
            return NO_SUCH;
        }
        Traveller t = world.people[i];
        if (t.slips == 0 || !retreat.follow(world, t) || t.day > retreat.latest) {
            return NONE;
        }
        return retreat.latest;
    }

    public int needs(int i, int row) {
        if (!world.hasTraveller(i) || !isRow(row)) {
            return NO_SUCH;
        }
        if (rows[row].missing) {
            return MISSING;
        }
        trip.follow(world, world.people[i], rows[row], Trip.ENOUGH);
        return trip.why == 0 ? Trip.ENOUGH - trip.lowest : NONE;
    }

    public int partner(int i) {
        if (!world.hasTraveller(i)) {
            return NO_SUCH;
        }
        int best = NONE;
        int most = 0;
        for (int other = 0; other < world.guests; other++) {
            if (other == i || world.people[other].town != world.people[i].town) {
                continue;
            }
            int mine = gainOf(i, other);
            int yours = gainOf(other, i);
            if (mine >= 0 && yours >= 0 && mine + yours > most) {
                best = other;
                most = mine + yours;
            }
        }
        return best;
    }

    /** What a TRAVELLER gains by another one's SLIPS in place of his; NO_WAY. */
    private int gainOf(int i, int other) {
        Traveller t = world.people[i];
        return lessBy(ways.homeCost(world, t, t), ways.homeCost(world, t, world.people[other]));
    }

    private static int lessBy(int before, int after) {
        return before == NO_WAY || after == NO_WAY ? NO_WAY : before - after;
    }

    public int cheapest(int i, int what) {
        if (!world.hasTraveller(i) || what < 0 || what > 1) {
            return NO_SUCH;
        }
        Traveller t = world.people[i];
        int cost = ways.homeCost(world, t, t);
        if (what == 0) {
            return cost;
        }
        return cost == NO_WAY ? NONE : ways.homeRoads(world);
    }

    public int price(int i, int other) {
        if (!world.hasPair(i, other)) {
            return NO_SUCH;
        }
        Traveller seller = world.people[i];
        Traveller buyer = world.people[other];
        if (seller.slips == 0) {
            return NOT_NOW;
        }
        if (buyer.slips >= MOST_SLIPS) {
            return FULL;
        }
        spare.become(buyer);
        spare.takeTopOf(seller);
        return lessBy(ways.homeCost(world, buyer, buyer), ways.homeCost(world, buyer, spare));
    }

    public int gain(int i, int other, int what) {
        if (!world.hasPair(i, other) || what < 0 || what > 1) {
            return NO_SUCH;
        }
        return what == 0 ? gainOf(i, other) : gainOf(other, i);
    }

    public int through(int i, int wanted, int n, int what) {
        boolean told = what == 0 || what == 1 || isRoadPlace(what, MOST_GOINGS);
        if (!world.hasTraveller(i) || !told) {
            return NO_SUCH;
        }
        if (!world.land.hasTowns(wanted) || n < 0 || n > MOST_GOINGS) {
            return BAD_NUMBER;
        }
        tour.seek(world, world.people[i], wanted, n);
        if (tour.tried > MOST_TRIED) {
            return FULL;
        }
        if (tour.length == NONE) {
            return what == 0 ? NO_WAY : NONE;
        }
        switch (what) {
            case 0: return tour.purse - world.people[i].purse;
            case 1: return tour.length;
            default: return what - FIRST_ROAD < tour.length ? tour.best[what - FIRST_ROAD] : NONE;
        }
    }

    private static boolean isRoadPlace(int what, int places) {
        return what >= FIRST_ROAD && what < FIRST_ROAD + places;
    }

    public int journeys(int row, int n) {
        int code = slipsRefusal(row);
        if (code != 0) {
            return code;
        }
        if (n < 0 || n > MOST_NUMBERS) {
            return BAD_NUMBER;
        }
        if (forgedPlace(rows[row]) != NONE) {
            return 0;
        }
        return counter.countAll(world, rows[row], n);
    }

    public int forged(int row) {
        int code = slipsRefusal(row);
        return code != 0 ? code : forgedPlace(rows[row]);
    }

    public int journey(int row, int n, int k, int i) {
        int code = slipsRefusal(row);
        if (code != 0) {
            return code;
        }
        if (n < 0 || n > MOST_NUMBERS || k < 0) {
            return BAD_NUMBER;
        }
        if (i < 0 || i >= n || forgedPlace(rows[row]) != NONE) {
            return NONE;
        }
        return counter.roadOf(world, rows[row], n, k, i);
    }

    /** Why a ROW can't be taken as a ROW of SLIPS, 0 if it can. */
    private int slipsRefusal(int row) {
        if (!isRow(row)) {
            return NO_SUCH;
        }
        if (world.land.towns == 0) {
            return NOT_NOW;
        }
        if (rows[row].missing) {
            return MISSING;
        }
        for (int k = 0; k < rows[row].size; k++) {
            int mark = rows[row].smallAt(k);
            if (mark < 0 || !world.land.hasRoad(mark >> 1)) {
                return BAD_NUMBER;
            }
        }
        return 0;
    }

    private int forgedPlace(Numbers row) {
        int town = world.land.home;
        int below = NONE;
        for (int k = 0; k < row.size; k++) {
            int mark = row.smallAt(k);
            if (world.land.startOf(mark) != town || below != NONE && mark == (below ^ 1)) {
                return k;
            }
            town = world.land.endOf(mark);
            below = mark;
        }
        return NONE;
    }

    public int lane(int one, int other, int day, int what) {
        boolean told = what >= 0 && what <= 2 || isRoadPlace(what, MOST_TOWNS - 1);
        if (!world.land.hasTown(one) || !world.land.hasTown(other) || !told) {
            return NO_SUCH;
        }
        if (day < 0) {
            return BAD_NUMBER;
        }
        ways.seekLanes(world, other, day);
        if (ways.reach[one] == Ways.FAR) {
            return NONE;
        }
        switch (what) {
            case 0: return ways.laneTolls(one);
            case 1: return ways.laneDays(one);
            case 2: return ways.laneRoads(one);
            default: return ways.laneRoad(world, one, what - FIRST_ROAD);
        }
    }

    public int box(int wanted) {
        Kingdom land = world.land;
        if (land.towns == 0) {
            return NOT_NOW;
        }
        if (!land.hasTowns(wanted)) {
            return BAD_NUMBER;
        }
        // Every ROAD of a JOURNEY that has all back is gone there and back: a tree, twice.
        int days = trees.leastDays(world, wanted | 1 << land.home);
        return days == NONE ? NONE : 2 * days;
    }

    public int cutOff(int r) {
        if (!world.land.hasRoad(r)) {
            return NO_SUCH;
        }
        return world.reachable(world.openRoads()) & ~world.reachable(world.openRoads() & ~(1 << r));
    }

    public int ledger(int from, int to) {
        if (from < 0 || to >= LEDGER_DAYS || to < from) {
            return BAD_NUMBER;
        }
        int sum = 0;
        for (int day = from; day <= to; day++) {
            sum += world.ledger[day];
        }
        return sum;
    }

    public int meet(int i, int row, int other, int otherRow, int what) {
        boolean told = what == 0 || what == 1;
        if (!world.hasPair(i, other) || !isRow(row) || !isRow(otherRow) || !told) {
            return NO_SUCH;
        }
        if (rows[row].missing || rows[otherRow].missing) {
            return MISSING;
        }
        Traveller one = world.people[i];
        Traveller two = world.people[other];
        trip.follow(world, one, rows[row], one.purse);
        otherTrip.follow(world, two, rows[otherRow], two.purse);
        int day = trip.meets(otherTrip);
        if (day == NONE) {
            return NONE;
        }
        return what == 0 ? day : trip.townOn(day);
    }

    public int fair(int i, int seed, int times) {
        if (!world.hasTraveller(i)) {
            return NO_SUCH;
        }
        if (times < 1 || times > 40) {
            return BAD_NUMBER;
        }
        Traveller t = world.people[i];
        int x = seed;
        for (int went = 0; went < times; went++) {
            int open = world.openRoadsAt(t.town);
            if (open == 0) {
                return went;
            }
            x = 1103515245 * x + 12345;
            if (world.move(t, bitOf(open, (x >>> 16) % Integer.bitCount(open))) < 0) {
                return went;
            }
        }
        return times;
    }

    /** The number of a set's bit that has so many others below it. */
    private static int bitOf(int set, int below) {
        int left = below;
        for (int bit = 0; bit < MOST_ROADS; bit++) {
            if ((set >> bit & 1) != 0) {
                if (left == 0) {
                    return bit;
                }
                left--;
            }
        }
        return NONE;
    }

    // ---- rows of numbers, images

    private static boolean isRow(int row) {
        return row >= 0 && row < ROWS;
    }

    public int numbers(int row, int sort, int n) {
        if (!isRow(row) || sort < 0 || sort > 3) {
            return NO_SUCH;
        }
        if (n < 0 || n > MOST_NUMBERS) {
            return BAD_NUMBER;
        }
        rows[row].renew(sort, n);
        return 0;
    }

    public long write(int row, int i, long v) {
        if (!isRow(row)) {
            return NO_SUCH;
        }
        Numbers numbers = rows[row];
        if (numbers.missing) {
            return MISSING;
        }
        if (i < 0 || i >= numbers.size) {
            return NO_PLACE;
        }
        numbers.put(i, v);
        return numbers.value[i];
    }

    public int copy(int i, int row) {
        if (!world.hasTraveller(i) || !isRow(row)) {
            return NO_SUCH;
        }
        Traveller t = world.people[i];
        Numbers numbers = rows[row];
        if (numbers.missing) {
            return MISSING;
        }
        if (numbers.size < t.slips) {
            return NO_PLACE;
        }
        for (int k = 0; k < t.slips; k++) {
            numbers.put(k, t.mark[k]);
        }
        return t.slips;
    }

    public int image(int i) {
        if (i < 0 || i >= IMAGES) {
            return NO_SUCH;
        }
        if (images[i] == null) {
            images[i] = new World();
        }
        images[i].become(world);
        return 0;
    }

    public int restore(int i) {
        if (i < 0 || i >= IMAGES) {
            return NO_SUCH;
        }
        if (images[i] == null) {
            return NOT_NOW;
        }
        world.become(images[i]);
        return 0;
    }

    public int count(int what) {
        Kingdom land = world.land;
        switch (what) {
            case 0: return land.towns;
            case 1: return land.roads;
            case 2: return world.guests;
            case 3: return land.towns == 0 ? NONE : land.home;
            case 4: return land.year;
            case 5: return land.late;
            case 6: return Integer.bitCount(world.closed);
            case 7: return taped;
            case 8: return land.lines;
            default: return NONE;
        }
    }

    /** What the text told: TOWNS, ROADS, seasons, year, late. */
    private static final class Kingdom {
        int towns;
        int home;
        int year;
        int late;
        int summerFirst;
        int summerLast;
        int lines;
        int roads;
        final int[] one = new int[MOST_ROADS];
        final int[] other = new int[MOST_ROADS];
        final int[] toll = new int[MOST_ROADS];
        final int[] summerToll = new int[MOST_ROADS];
        final int[] days = new int[MOST_ROADS];

        Kingdom() {
            clear();
        }

        void clear() {
            towns = 0;
            home = 0;
            year = 360;
            late = 50;
            summerFirst = 90;
            summerLast = 269;
            lines = 0;
            roads = 0;
        }

        void become(Kingdom k) {
            towns = k.towns;
            home = k.home;
            year = k.year;
            late = k.late;
            summerFirst = k.summerFirst;
            summerLast = k.summerLast;
            lines = k.lines;
            roads = k.roads;
            System.arraycopy(k.one, 0, one, 0, MOST_ROADS);
            System.arraycopy(k.other, 0, other, 0, MOST_ROADS);
            System.arraycopy(k.toll, 0, toll, 0, MOST_ROADS);
            System.arraycopy(k.summerToll, 0, summerToll, 0, MOST_ROADS);
            System.arraycopy(k.days, 0, days, 0, MOST_ROADS);
        }

        boolean hasTown(int town) {
            return town >= 0 && town < towns;
        }

        boolean hasTowns(int set) {
            return set >= 0 && set >> towns == 0;
        }

        boolean hasRoad(int r) {
            return r >= 0 && r < roads;
        }

        boolean isSummer(int day) {
            int d = Math.floorMod(day, SEASONS_DAYS);
            return d >= summerFirst && d <= summerLast;
        }

        int tollOn(int r, int day) {
            return isSummer(day) ? summerToll[r] : toll[r];
        }

        boolean leadsFrom(int r, int town) {
            return one[r] == town || other[r] == town;
        }

        int across(int r, int town) {
            return one[r] == town ? other[r] : one[r];
        }

        /** A ROAD gone from a TOWN, as a ROW of SLIPS tells it; ^ 1 turns it about. */
        int markOf(int r, int town) {
            return one[r] == town ? 2 * r : 2 * r + 1;
        }

        int startOf(int mark) {
            return (mark & 1) == 0 ? one[mark >> 1] : other[mark >> 1];
        }

        int endOf(int mark) {
            return startOf(mark ^ 1);
        }

        boolean isLate(Traveller t, int k, int day) {
            return day - t.since[k] > year;
        }

        int worthOn(Traveller t, int k, int day) {
            return isLate(t, k, day) ? t.cost[k] * late / 100 : t.cost[k];
        }
    }

    /** One who goes, with his SLIPS from the bottom up. */
    private static final class Traveller {
        /** How many numbers keepIn() puts down. */
        static final int KEPT = 7;

        int town;
        int day;
        int purse;
        int paid;
        int hadBack;
        int slips;
        int[] mark = new int[MOST_SLIPS];
        int[] since = new int[MOST_SLIPS];
        int[] cost = new int[MOST_SLIPS];

        void begin(int home, int coins) {
            town = home;
            day = 0;
            purse = coins;
            paid = 0;
            hadBack = 0;
            slips = 0;
        }

        void become(Traveller t) {
            town = t.town;
            day = t.day;
            purse = t.purse;
            paid = t.paid;
            hadBack = t.hadBack;
            slips = t.slips;
            System.arraycopy(t.mark, 0, mark, 0, MOST_SLIPS);
            System.arraycopy(t.since, 0, since, 0, MOST_SLIPS);
            System.arraycopy(t.cost, 0, cost, 0, MOST_SLIPS);
        }

        void push(int itsMark, int itsDay, int itsCost) {
            if (slips < MOST_SLIPS) {
                mark[slips] = itsMark;
                since[slips] = itsDay;
                cost[slips] = itsCost;
                slips++;
            }
        }

        void takeTopOf(Traveller giver) {
            int top = giver.slips - 1;
            if (top >= 0) {
                push(giver.mark[top], giver.since[top], giver.cost[top]);
            }
        }

        void swapSlips(Traveller t) {
            int count = slips;
            int[] marks = mark;
            int[] days = since;
            int[] costs = cost;
            slips = t.slips;
            mark = t.mark;
            since = t.since;
            cost = t.cost;
            t.slips = count;
            t.mark = marks;
            t.since = days;
            t.cost = costs;
        }

        /** Puts down what one GOING can change, so that regain() can take the GOING back. */
        void keepIn(int[] kept) {
            kept[0] = town;
            kept[1] = day;
            kept[2] = purse;
            kept[3] = slips;
            if (slips < MOST_SLIPS) {
                kept[4] = mark[slips];
                kept[5] = since[slips];
                kept[6] = cost[slips];
            }
        }

        void regain(int[] kept) {
            town = kept[0];
            day = kept[1];
            purse = kept[2];
            slips = kept[3];
            if (slips < MOST_SLIPS) {
                mark[slips] = kept[4];
                since[slips] = kept[5];
                cost[slips] = kept[6];
            }
        }
    }

    /** All that an IMAGE holds: THE KINGDOM, closed ROADS, TRAVELLERS, THE TREASURY. */
    private static final class World {
        final Kingdom land = new Kingdom();
        final Traveller[] people = new Traveller[MOST_TRAVELLERS];
        final int[] ledger = new int[LEDGER_DAYS];
        int guests;
        int closed;
        int treasure;

        World() {
            for (int i = 0; i < MOST_TRAVELLERS; i++) {
                people[i] = new Traveller();
            }
        }

        void begin(Kingdom k) {
            land.become(k);
            guests = 0;
            closed = 0;
            treasure = 0;
            Arrays.fill(ledger, 0);
        }

        void become(World w) {
            land.become(w.land);
            guests = w.guests;
            closed = w.closed;
            treasure = w.treasure;
            System.arraycopy(w.ledger, 0, ledger, 0, LEDGER_DAYS);
            for (int i = 0; i < guests; i++) {
                people[i].become(w.people[i]);
            }
        }

        boolean hasTraveller(int i) {
            return i >= 0 && i < guests;
        }

        boolean hasPair(int i, int other) {
            return hasTraveller(i) && hasTraveller(other) && i != other;
        }

        int welcome(int purse) {
            if (guests >= MOST_TRAVELLERS) {
                return NOT_NOW;
            }
            people[guests].begin(land.home, purse);
            guests++;
            return guests - 1;
        }

        boolean isOpen(int r) {
            return (closed >> r & 1) == 0;
        }

        void shut(int r, boolean shut) {
            closed = shut ? closed | 1 << r : closed & ~(1 << r);
        }

        int openRoads() {
            return (1 << land.roads) - 1 & ~closed;
        }

        int openRoadsAt(int town) {
            int set = 0;
            for (int r = 0; r < land.roads; r++) {
                if (isOpen(r) && land.leadsFrom(r, town)) {
                    set |= 1 << r;
                }
            }
            return set;
        }

        /** TOWNS to which one can come from HOME by a set of ROADS. */
        int reachable(int roads) {
            int set = 1 << land.home;
            for (int round = 1; round < land.towns; round++) {
                for (int r = 0; r < land.roads; r++) {
                    int ends = 1 << land.one[r] | 1 << land.other[r];
                    if ((roads >> r & 1) != 0 && (set & ends) != 0) {
                        set |= ends;
                    }
                }
            }
            return set;
        }

        /** GOING: what it comes to, and THE TREASURY has it; or a code. */
        int move(Traveller t, int r) {
            int day = t.day;
            int answer = step(t, r);
            if (answer >= HAD_BACK) {
                enter(day, HAD_BACK - answer);
            } else if (answer > 0) {
                enter(day, answer);
            }
            return answer;
        }

        private void enter(int day, int coins) {
            treasure += coins;
            if (day >= 0 && day < LEDGER_DAYS) {
                ledger[day] += coins;
            }
        }

        /** GOING, THE TREASURY aside: what was paid, HAD_BACK and what was had back, or a code. */
        int step(Traveller t, int r) {
            if (!land.hasRoad(r)) {
                return NO_SUCH;
            }
            if (!isOpen(r)) {
                return CLOSED;
            }
            if (!land.leadsFrom(r, t.town)) {
                return ASTRAY;
            }
            int mark = land.markOf(r, t.town);
            boolean back = t.slips > 0 && t.mark[t.slips - 1] == (mark ^ 1);
            int answer = back ? haveBack(t) : pay(t, mark);
            if (answer >= 0) {
                t.town = land.endOf(mark);
                t.day += land.days[r];
            }
            return answer;
        }

        private int haveBack(Traveller t) {
            t.slips--;
            int coins = land.worthOn(t, t.slips, t.day);
            t.purse += coins;
            t.hadBack += coins;
            return HAD_BACK + coins;
        }

        private int pay(Traveller t, int mark) {
            int coins = land.tollOn(mark >> 1, t.day);
            if (t.purse < coins) {
                return NOT_NOW;
            }
            if (t.slips >= MOST_SLIPS) {
                return FULL;
            }
            t.push(mark, t.day, coins);
            t.purse -= coins;
            t.paid += coins;
            return coins;
        }

        int allSlips() {
            int sum = 0;
            for (int i = 0; i < guests; i++) {
                sum += people[i].slips;
            }
            return sum;
        }

        int lateSlips() {
            int sum = 0;
            for (int i = 0; i < guests; i++) {
                Traveller t = people[i];
                for (int k = 0; k < t.slips; k++) {
                    sum += land.isLate(t, k, t.day) ? 1 : 0;
                }
            }
            return sum;
        }

        int debtOn(int day) {
            int sum = 0;
            for (int i = 0; i < guests; i++) {
                for (int k = 0; k < people[i].slips; k++) {
                    sum += land.worthOn(people[i], k, day);
                }
            }
            return sum;
        }

        int firstSlipDay() {
            int first = NONE;
            for (int i = 0; i < guests; i++) {
                Traveller t = people[i];
                for (int k = 0; k < t.slips; k++) {
                    first = first == NONE ? t.since[k] : Math.min(first, t.since[k]);
                }
            }
            return first;
        }
    }

    /** Reads a text into a draft, so that THE KINGDOM stays if there is a FAULT. */
    private static final class Reader {
        private static final int END = 0;
        private static final int WORD = 1;
        private static final int NUMBER = 2;
        private static final int SIGN = 3;

        final Kingdom draft = new Kingdom();
        int faultKind;
        int faultPlace;
        private byte[] text = new byte[0];
        private int length;
        private int place;
        private int behind;
        private int kind;
        private int value;

        void read(byte[] bytes, int n) {
            text = bytes;
            length = Math.min(n, bytes.length);
            behind = 0;
            faultKind = 0;
            faultPlace = NONE;
            draft.clear();
            for (int line = 0; line <= length; line++) {
                advance();
                if (faultKind != 0 || kind == END) {
                    return;
                }
                readLine();
                expectSign();
                draft.lines++;
            }
        }

        private void readLine() {
            if (isWord("towns")) {
                readTowns();
            } else if (isWord("home")) {
                readHome();
            } else if (isWord("year")) {
                draft.year = expectNumber(1, 360);
            } else if (isWord("late")) {
                draft.late = expectNumber(0, 100);
            } else if (isWord("summer")) {
                draft.summerFirst = expectNumber(0, SEASONS_DAYS - 1);
                expectWord("to");
                draft.summerLast = expectNumber(draft.summerFirst, SEASONS_DAYS - 1);
            } else if (isWord("road")) {
                readRoad();
            } else {
                blame(2);
            }
        }

        private void readTowns() {
            if (draft.towns != 0) {
                blame(4);
            }
            draft.towns = expectNumber(2, MOST_TOWNS);
        }

        private void readHome() {
            if (draft.towns == 0) {
                blame(2);
            }
            draft.home = expectNumber(0, draft.towns - 1);
        }

        private void readRoad() {
            if (draft.towns == 0) {
                blame(2);
            }
            if (draft.roads >= MOST_ROADS) {
                blame(4);
            }
            int one = expectNumber(0, draft.towns - 1);
            expectWord("to");
            int other = expectNumber(0, draft.towns - 1);
            if (other == one) {
                blame(3);
            }
            expectWord("toll");
            int toll = expectNumber(0, 999);
            int summerToll = toll;
            advance();
            if (isWord("summer")) {
                summerToll = expectNumber(0, 999);
                advance();
            }
            if (!isWord("days")) {
                blame(2);
            }
            int days = expectNumber(1, 90);
            if (faultKind == 0) {
                addRoad(one, other, toll, summerToll, days);
            }
        }

        private void addRoad(int one, int other, int toll, int summerToll, int days) {
            int r = draft.roads;
            if (r < MOST_ROADS) {
                draft.one[r] = one;
                draft.other[r] = other;
                draft.toll[r] = toll;
                draft.summerToll[r] = summerToll;
                draft.days[r] = days;
                draft.roads++;
            }
        }

        private void expectWord(String word) {
            advance();
            if (!isWord(word)) {
                blame(2);
            }
        }

        private void expectSign() {
            advance();
            if (kind != SIGN) {
                blame(2);
            }
        }

        private int expectNumber(int least, int most) {
            advance();
            if (kind != NUMBER) {
                blame(2);
            } else if (value < least || value > most) {
                blame(3);
            }
            return value;
        }

        /** The first FAULT stays: what is read behind it counts no more. */
        private void blame(int faultOfToken) {
            if (faultKind == 0) {
                faultKind = faultOfToken;
                faultPlace = place;
            }
        }

        private boolean isWord(String word) {
            if (kind != WORD || behind - place != word.length()) {
                return false;
            }
            for (int i = 0; i < word.length(); i++) {
                if (text[place + i] != word.charAt(i)) {
                    return false;
                }
            }
            return true;
        }

        private void advance() {
            while (behind < length && isBlank(text[behind])) {
                behind++;
            }
            place = behind;
            if (behind >= length) {
                kind = END;
            } else if (isLetter(text[behind])) {
                readWord();
            } else if (isDigit(text[behind])) {
                readNumber();
            } else if (text[behind] == ';') {
                kind = SIGN;
                behind++;
            } else {
                blame(1);
                behind++;
            }
        }

        private void readWord() {
            kind = WORD;
            while (behind < length && isLetter(text[behind])) {
                behind++;
            }
        }

        private void readNumber() {
            kind = NUMBER;
            value = 0;
            while (behind < length && isDigit(text[behind])) {
                value = 10 * value + text[behind] - '0';
                behind++;
            }
            if (behind - place > 3) {
                blame(1);
            }
        }

        private static boolean isBlank(byte b) {
            return b == 10 || b == 32;
        }

        private static boolean isLetter(byte b) {
            return b >= 'a' && b <= 'z';
        }

        private static boolean isDigit(byte b) {
            return b >= '0' && b <= '9';
        }
    }

    /** A ROW OF NUMBERS; each is held as it is cut to the ROW's sort. */
    private static final class Numbers {
        final long[] value = new long[MOST_NUMBERS];
        int size;
        boolean missing = true;
        private int sort;

        void renew(int itsSort, int n) {
            missing = false;
            sort = itsSort;
            size = n;
            Arrays.fill(value, 0L);
        }

        void put(int i, long v) {
            switch (sort) {
                case 0:
                    value[i] = (byte) v;
                    break;
                case 1:
                    value[i] = (short) v;
                    break;
                case 2:
                    value[i] = (int) v;
                    break;
                default:
                    value[i] = v;
                    break;
            }
        }

        /** A number that may be a ROAD or a SLIP; NONE for those that are far from both. */
        int smallAt(int i) {
            long v = value[i];
            return v < 0 || v >= 2 * MOST_ROADS ? NONE : (int) v;
        }
    }

    /** A ROW of ROADS gone by a TRAVELLER's double, with the TOWNS and DAYS on the way. */
    private static final class Trip {
        /** A PURSE that no ROW of ROADS can empty. */
        static final int ENOUGH = 1000000000;

        final Traveller walker = new Traveller();
        private final int[] town = new int[MOST_NUMBERS + 1];
        private final int[] day = new int[MOST_NUMBERS + 1];
        int went;
        int why;
        int lowest;

        void follow(World world, Traveller t, Numbers row, int purse) {
            walker.become(t);
            walker.purse = purse;
            lowest = purse;
            went = 0;
            why = 0;
            town[0] = t.town;
            day[0] = t.day;
            for (int k = 0; k < row.size && why == 0; k++) {
                int answer = world.step(walker, row.smallAt(k));
                if (answer < 0) {
                    why = answer;
                } else {
                    arrive();
                }
            }
        }

        private void arrive() {
            went++;
            town[went] = walker.town;
            day[went] = walker.day;
            lowest = Math.min(lowest, walker.purse);
        }

        /** The TOWN in which he is on a DAY, NONE on the way and ahead of all. */
        int townOn(int when) {
            if (when >= day[went]) {
                return town[went];
            }
            for (int k = 0; k < went; k++) {
                if (day[k] == when) {
                    return town[k];
                }
            }
            return NONE;
        }

        /**
         * The first DAY on which both are in one TOWN. One of the two comes there on it: if he does,
         * the other one can't have met him earlier, for he is nowhere for ever till then.
         */
        int meets(Trip other) {
            int mine = firstMeeting(other);
            return mine != NONE ? mine : other.firstMeeting(this);
        }

        private int firstMeeting(Trip other) {
            for (int k = 0; k <= went; k++) {
                if (other.townOn(day[k]) == town[k]) {
                    return day[k];
                }
            }
            return NONE;
        }
    }

    /** HOMEWARD by all SLIPS. */
    private static final class Retreat {
        int coins;
        int days;
        int late;
        int latest;

        /** Whether it can be; latest is the last DAY to set out with no SLIP late. */
        boolean follow(World world, Traveller t) {
            Kingdom land = world.land;
            int town = t.town;
            coins = 0;
            days = 0;
            late = 0;
            latest = Integer.MAX_VALUE;
            for (int k = t.slips - 1; k >= 0; k--) {
                if (!world.isOpen(t.mark[k] >> 1) || land.endOf(t.mark[k]) != town) {
                    return false;
                }
                coins += land.worthOn(t, k, t.day + days);
                late += land.isLate(t, k, t.day + days) ? 1 : 0;
                latest = Math.min(latest, t.since[k] + land.year - days);
                days += land.days[t.mark[k] >> 1];
                town = land.startOf(t.mark[k]);
            }
            return true;
        }
    }

    /**
     * Least ways over open ROADS. What is least comes first in one int, what counts among like
     * ones below it, so that one comparison does for all.
     */
    private static final class Ways {
        static final int FAR = Integer.MAX_VALUE;

        /** A way home: its cost above, its ROADS in the lowest bits (under 12 TOWNS times 41). */
        private static final int COST_SHIFT = 10;
        /** A LANE: at most 11 ROADS, 990 days. */
        private static final int LANE_DAYS_SHIFT = 4;
        private static final int LANE_TOLLS_SHIFT = 14;

        final int[] reach = new int[MOST_TOWNS];
        private final int[] weight = new int[MOST_ROADS];

        private void startAt(int town) {
            Arrays.fill(reach, FAR);
            reach[town] = 0;
        }

        private void settle(World world) {
            boolean changed = true;
            for (int round = 0; round < world.land.towns && changed; round++) {
                changed = false;
                for (int r = 0; r < world.land.roads; r++) {
                    if (world.isOpen(r)) {
                        int one = world.land.one[r];
                        int other = world.land.other[r];
                        boolean there = improve(one, other, weight[r]);
                        boolean back = improve(other, one, weight[r]);
                        changed = changed || there || back;
                    }
                }
            }
        }

        private boolean improve(int start, int end, int step) {
            if (reach[start] == FAR || reach[start] + step >= reach[end]) {
                return false;
            }
            reach[end] = reach[start] + step;
            return true;
        }

        /**
         * The cost of CHEAPEST HOMEWARD with a holder's SLIPS; NO_WAY. A SLIP tossed is free, so
         * what can be reached with k SLIPS can be with k less 1: one row of TOWNS serves for all k.
         */
        int homeCost(World world, Traveller who, Traveller holder) {
            Kingdom land = world.land;
            for (int r = 0; r < land.roads; r++) {
                weight[r] = (land.tollOn(r, who.day) << COST_SHIFT) + 1;
            }
            startAt(who.town);
            settle(world);
            for (int k = holder.slips - 1; k >= 0; k--) {
                int mark = holder.mark[k];
                int got = land.worthOn(holder, k, who.day);
                if (world.isOpen(mark >> 1)
                        && improve(land.endOf(mark), land.startOf(mark), 1 - (got << COST_SHIFT))) {
                    settle(world);
                }
            }
            return reach[land.home] == FAR ? NO_WAY : reach[land.home] >> COST_SHIFT;
        }

        /** The ROADS of the way that homeCost() found. */
        int homeRoads(World world) {
            return reach[world.land.home] & (1 << COST_SHIFT) - 1;
        }

        /** From every TOWN the LANE to one. */
        void seekLanes(World world, int end, int day) {
            Kingdom land = world.land;
            for (int r = 0; r < land.roads; r++) {
                weight[r] = (land.tollOn(r, day) << LANE_TOLLS_SHIFT)
                        + (land.days[r] << LANE_DAYS_SHIFT) + 1;
            }
            startAt(end);
            settle(world);
        }

        int laneTolls(int start) {
            return reach[start] >> LANE_TOLLS_SHIFT;
        }

        int laneDays(int start) {
            return reach[start] >> LANE_DAYS_SHIFT & (1 << LANE_TOLLS_SHIFT - LANE_DAYS_SHIFT) - 1;
        }

        int laneRoads(int start) {
            return reach[start] & (1 << LANE_DAYS_SHIFT) - 1;
        }

        int laneRoad(World world, int start, int k) {
            int town = start;
            int road = NONE;
            for (int place = 0; place <= k; place++) {
                road = firstLaneRoad(world, town);
                if (road == NONE) {
                    return NONE;
                }
                town = world.land.across(road, town);
            }
            return road;
        }

        private int firstLaneRoad(World world, int town) {
            for (int r = 0; r < world.land.roads; r++) {
                if (world.isOpen(r) && world.land.leadsFrom(r, town)) {
                    int next = world.land.across(r, town);
                    if (reach[next] != FAR && reach[next] + weight[r] == reach[town]) {
                        return r;
                    }
                }
            }
            return NONE;
        }
    }

    /** CHEAPEST through wanted TOWNS: all JOURNEYS in the order of ROADS are tried. */
    private static final class Tour {
        int tried;
        int purse;
        int length;
        final int[] best = new int[MOST_GOINGS];
        private final int[] row = new int[MOST_GOINGS];
        private final int[] roadsAt = new int[MOST_TOWNS];
        private final int[][] kept = new int[MOST_GOINGS][Traveller.KEPT];
        private final Traveller walker = new Traveller();
        private int wanted;
        private int most;

        void seek(World world, Traveller t, int wantedTowns, int n) {
            walker.become(t);
            wanted = wantedTowns;
            most = Math.min(n, MOST_GOINGS);
            tried = 0;
            length = NONE;
            for (int town = 0; town < world.land.towns; town++) {
                roadsAt[town] = world.openRoadsAt(town);
            }
            explore(this, world, 0, 1 << t.town);
        }

        private static void explore(Tour s, World world, int depth, int seen) {
            s.judgeEnd(world, depth, seen);
            if (depth >= s.most) {
                return;
            }
            int roads = s.roadsAt[s.walker.town];
            for (int r = 0; r < world.land.roads && s.tried <= MOST_TRIED; r++) {
                if ((roads >> r & 1) == 0) {
                    continue;
                }
                s.walker.keepIn(s.kept[depth]);
                if (world.step(s.walker, r) >= 0) {
                    s.tried++;
                    s.row[depth] = r;
                    explore(s, world, depth + 1, seen | 1 << s.walker.town);
                    s.walker.regain(s.kept[depth]);
                }
            }
        }

        /** JOURNEYS come in the order of ROADS: of like ones the first stays. */
        private void judgeEnd(World world, int goings, int seen) {
            if (walker.town != world.land.home || (seen & wanted) != wanted) {
                return;
            }
            boolean better = length == NONE || walker.purse > purse
                    || walker.purse == purse && goings < length;
            if (better) {
                purse = walker.purse;
                length = goings;
                System.arraycopy(row, 0, best, 0, goings);
            }
        }
    }

    /**
     * JOURNEYS that leave a ROW of SLIPS. SLIPS open are a place in a tree without rounds: each
     * GOING leads to a place beyond, or back. A JOURNEY to a place goes round and comes again at
     * each place on the way there; what is counted is these rounds, by half their length.
     */
    private static final class Counter {
        private static final int HALVES = MOST_NUMBERS / 2 + 1;
        private static final int ROOTS = 2 * MOST_ROADS;
        /** One above all k that journey() can be asked for. */
        private static final long MANY = 1L << 31;

        /** Rounds behind a mark (never back by it), then those from each TOWN, back by any. */
        private final long[] rounds = new long[(ROOTS + MOST_TOWNS) * HALVES];
        /** The same beyond all next ROADS together. */
        private final long[] beyond = new long[(ROOTS + MOST_TOWNS) * HALVES];
        private final long[] product = new long[HALVES];
        private final int[] wanted = new int[MOST_NUMBERS];
        private final int[] held = new int[MOST_NUMBERS];
        private int wantedSlips;
        private int heldSlips;
        private boolean capped;

        int countAll(World world, Numbers row, int n) {
            capped = false;
            prepare(world, row, n);
            return (int) countFrom(world, world.land.home, n);
        }

        int roadOf(World world, Numbers row, int n, int k, int i) {
            capped = true;
            prepare(world, row, n);
            long left = k;
            int town = world.land.home;
            for (int place = 0; place <= i; place++) {
                int road = NONE;
                for (int r = 0; r < world.land.roads && road == NONE; r++) {
                    if (!world.isOpen(r) || !world.land.leadsFrom(r, town)) {
                        continue;
                    }
                    int mark = world.land.markOf(r, town);
                    hold(mark);
                    long ways = countFrom(world, world.land.endOf(mark), n - place - 1);
                    if (left < ways) {
                        road = r;
                    } else {
                        left -= ways;
                        hold(mark ^ 1);
                    }
                }
                if (road == NONE || place == i) {
                    return road;
                }
                town = world.land.across(road, town);
            }
            return NONE;
        }

        private void prepare(World world, Numbers row, int n) {
            heldSlips = 0;
            wantedSlips = row.size;
            for (int k = 0; k < row.size; k++) {
                wanted[k] = row.smallAt(k);
            }
            for (int half = 0; half <= n / 2 && half < HALVES; half++) {
                for (int mark = 0; mark < 2 * world.land.roads; mark++) {
                    countRounds(mark, half);
                }
                for (int town = 0; town < world.land.towns; town++) {
                    countRounds(ROOTS + town, half);
                }
                for (int mark = 0; mark < 2 * world.land.roads; mark++) {
                    sumBeyond(world, mark, world.land.endOf(mark), half);
                }
                for (int town = 0; town < world.land.towns; town++) {
                    sumBeyond(world, ROOTS + town, town, half);
                }
            }
        }

        /** A round goes out and comes back for the first time, then another round follows. */
        private void countRounds(int place, int half) {
            long sum = half == 0 ? 1 : 0;
            for (int j = 0; j < half; j++) {
                sum = plus(sum, beyond[place * HALVES + j], rounds[place * HALVES + half - 1 - j]);
            }
            rounds[place * HALVES + half] = sum;
        }

        /** All ROADS from there but the one by which one came; a root's number is above all marks: none. */
        private void sumBeyond(World world, int place, int town, int half) {
            long sum = 0;
            for (int r = 0; r < world.land.roads; r++) {
                if (r != place >> 1 && world.isOpen(r) && world.land.leadsFrom(r, town)) {
                    sum = plus(sum, 1, rounds[world.land.markOf(r, town) * HALVES + half]);
                }
            }
            beyond[place * HALVES + half] = sum;
        }

        private long plus(long sum, long a, long b) {
            return capped ? Math.min(MANY, sum + Math.min(MANY, a * b)) : (sum + a * b) % MODULUS;
        }

        /** A GOING by a mark; the same mark turned about undoes it. */
        private void hold(int mark) {
            if (heldSlips > 0 && held[heldSlips - 1] == (mark ^ 1)) {
                heldSlips--;
            } else if (heldSlips < MOST_NUMBERS) {
                held[heldSlips] = mark;
                heldSlips++;
            }
        }

        /** How many rows of so many ROADS lead from the held SLIPS, in a TOWN, to the wanted ones. */
        private long countFrom(World world, int town, int steps) {
            int same = 0;
            while (same < heldSlips && same < wantedSlips && held[same] == wanted[same]) {
                same++;
            }
            int spare = steps - (heldSlips - same) - (wantedSlips - same);
            if (spare < 0 || spare % 2 != 0) {
                return 0;
            }
            int halves = spare / 2;
            System.arraycopy(rounds, (ROOTS + town) * HALVES, product, 0, halves + 1);
            for (int k = heldSlips - 1; k >= same; k--) {
                multiply(held[k] ^ 1, halves);
            }
            for (int k = same; k < wantedSlips; k++) {
                if (!world.isOpen(wanted[k] >> 1)) {
                    return 0;
                }
                multiply(wanted[k], halves);
            }
            return product[halves];
        }

        private void multiply(int mark, int halves) {
            for (int half = halves; half >= 0; half--) {
                long sum = 0;
                for (int j = 0; j <= half; j++) {
                    sum = plus(sum, product[j], rounds[mark * HALVES + half - j]);
                }
                product[half] = sum;
            }
        }
    }

    /** Trees of open ROADS that need the fewest days. */
    private static final class Trees {
        private final int[] byDays = new int[MOST_ROADS];
        private final int[] group = new int[MOST_TOWNS];

        /** The days of the least tree that joins these TOWNS, by way of others or not; NONE. */
        int leastDays(World world, int joined) {
            int open = sortRoads(world);
            int least = NONE;
            for (int set = 0; set < 1 << world.land.towns; set++) {
                if ((set & joined) == joined) {
                    int days = treeDays(world.land, set, open);
                    if (days != NONE && (least == NONE || days < least)) {
                        least = days;
                    }
                }
            }
            return least;
        }

        private int sortRoads(World world) {
            int open = 0;
            for (int r = 0; r < world.land.roads; r++) {
                if (world.isOpen(r)) {
                    int k = open;
                    for (; k > 0 && world.land.days[byDays[k - 1]] > world.land.days[r]; k--) {
                        byDays[k] = byDays[k - 1];
                    }
                    byDays[k] = r;
                    open++;
                }
            }
            return open;
        }

        private int treeDays(Kingdom land, int set, int open) {
            for (int town = 0; town < land.towns; town++) {
                group[town] = 1 << town;
            }
            int days = 0;
            int missing = Integer.bitCount(set) - 1;
            for (int k = 0; k < open && missing > 0; k++) {
                int one = land.one[byDays[k]];
                int other = land.other[byDays[k]];
                boolean inside = (set >> one & 1) != 0 && (set >> other & 1) != 0;
                if (inside && group[one] != group[other]) {
                    unite(land, group[one] | group[other]);
                    days += land.days[byDays[k]];
                    missing--;
                }
            }
            return missing == 0 ? days : NONE;
        }

        private void unite(Kingdom land, int towns) {
            for (int town = 0; town < land.towns; town++) {
                if ((towns >> town & 1) != 0) {
                    group[town] = towns;
                }
            }
        }
    }
}

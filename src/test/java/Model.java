import java.math.BigInteger;
import java.nio.charset.StandardCharsets;
import java.util.ArrayList;
import java.util.Arrays;
import java.util.Collections;
import java.util.Comparator;
import java.util.HashMap;
import java.util.HashSet;
import java.util.List;
import java.util.Map;
import java.util.PriorityQueue;
import java.util.Set;
import java.util.TreeMap;
import java.util.regex.Matcher;
import java.util.regex.Pattern;

/**
 * The document told once more, by the plainest means (all ways tried, days counted one by one),
 * so that runs of random calls can be held against it. Only for small kingdoms.
 */
final class Model {
    static final int NO_WAY = -1000000;

    record Road(int one, int other, int toll, int summerToll, int days) {
        boolean at(int town) {
            return one == town || other == town;
        }

        int across(int town) {
            return one == town ? other : one;
        }
    }

    record Slip(int road, int from, int to, int day, int paid) { }

    static final class Person {
        int town;
        int day;
        int purse;
        int paid;
        int back;
        List<Slip> slips = new ArrayList<>();

        Person twin() {
            Person p = new Person();
            p.town = town;
            p.day = day;
            p.purse = purse;
            p.paid = paid;
            p.back = back;
            p.slips = new ArrayList<>(slips);
            return p;
        }

        Slip top() {
            return slips.isEmpty() ? null : slips.get(slips.size() - 1);
        }

        void drop() {
            slips.remove(slips.size() - 1);
        }
    }

    static final class State {
        int towns = 0;
        int home = 0;
        int year = 360;
        int late = 50;
        int summerFrom = 90;
        int summerTo = 269;
        int lines = 0;
        List<Road> roads = new ArrayList<>();
        Set<Integer> closed = new HashSet<>();
        List<Person> people = new ArrayList<>();
        int treasure = 0;
        Map<Integer, Integer> ledger = new TreeMap<>();

        State twin() {
            State s = new State();
            s.towns = towns;
            s.home = home;
            s.year = year;
            s.late = late;
            s.summerFrom = summerFrom;
            s.summerTo = summerTo;
            s.lines = lines;
            s.roads = new ArrayList<>(roads);
            s.closed = new HashSet<>(closed);
            for (Person p : people) {
                s.people.add(p.twin());
            }
            s.treasure = treasure;
            s.ledger = new TreeMap<>(ledger);
            return s;
        }
    }

    State s = new State();
    private byte[] tape = new byte[0];
    private int fault = 0;
    private int place = -1;
    private final long[][] rows = new long[4][];
    private final int[] sorts = new int[4];
    private final State[] images = new State[2];

    // ---- the kingdom

    int feed(int... ints) {
        if (tape.length + 20 > 700) {
            return -5;
        }
        byte[] more = Arrays.copyOf(tape, tape.length + 20);
        for (int i = 0; i < 20; i++) {
            more[tape.length + i] = (byte) (ints[i / 4] >> (24 - 8 * (i % 4)));
        }
        tape = more;
        return tape.length;
    }

    private record Token(String text, int at) { }

    int kingdom(int n) {
        if (n < 0 || n > tape.length) {
            return -3;
        }
        String text = new String(tape, 0, n, StandardCharsets.ISO_8859_1);
        tape = new byte[0];
        fault = 0;
        place = -1;
        List<Token> tokens = new ArrayList<>();
        Matcher m = Pattern.compile("[a-z]+|[0-9]+|;|[^ \n]").matcher(text);
        while (m.find()) {
            tokens.add(new Token(m.group(), m.start()));
        }
        tokens.add(new Token("", n));
        State fresh = new State();
        Parser p = new Parser(tokens, fresh);
        p.all();
        fault = p.kind;
        place = p.where;
        if (fault != 0) {
            return -30 - fault;
        }
        s = fresh;
        return s.lines;
    }

    /** Every LINE is a pattern of TOKENS: "#low-high" is an N. */
    private static final class Parser {
        final List<Token> tokens;
        final State out;
        int next = 0;
        int kind = 0;
        int where = -1;

        Parser(List<Token> tokens, State out) {
            this.tokens = tokens;
            this.out = out;
        }

        void all() {
            while (kind == 0 && !(tokens.get(next).text.isEmpty())) {
                line();
                if (kind == 0) {
                    out.lines++;
                }
            }
        }

        boolean wrong(int k) {
            kind = k;
            where = tokens.get(next).at;
            return false;
        }

        boolean bad() {
            String t = tokens.get(next).text;
            return !t.isEmpty() && !t.matches("[a-z]+|[0-9]{1,3}|;");
        }

        boolean word(String w) {
            if (bad()) {
                return wrong(1);
            }
            if (!tokens.get(next).text.equals(w)) {
                return wrong(2);
            }
            next++;
            return true;
        }

        int number(int low, int high, int not) {
            if (bad()) {
                wrong(1);
                return -1;
            }
            if (!tokens.get(next).text.matches("[0-9]+")) {
                wrong(2);
                return -1;
            }
            int v = Integer.parseInt(tokens.get(next).text);
            if (v < low || v > high || v == not) {
                wrong(3);
                return -1;
            }
            next++;
            return v;
        }

        void line() {
            if (bad()) {
                wrong(1);
                return;
            }
            switch (tokens.get(next).text) {
                case "towns" -> {
                    if (out.towns > 0) {
                        wrong(4);
                        return;
                    }
                    next++;
                    int v = number(2, 12, -1);
                    if (v >= 0 && word(";")) {
                        out.towns = v;
                    }
                }
                case "home" -> {
                    if (out.towns == 0) {
                        wrong(2);
                        return;
                    }
                    next++;
                    int v = number(0, out.towns - 1, -1);
                    if (v >= 0 && word(";")) {
                        out.home = v;
                    }
                }
                case "year" -> {
                    next++;
                    int v = number(1, 360, -1);
                    if (v >= 0 && word(";")) {
                        out.year = v;
                    }
                }
                case "late" -> {
                    next++;
                    int v = number(0, 100, -1);
                    if (v >= 0 && word(";")) {
                        out.late = v;
                    }
                }
                case "summer" -> {
                    next++;
                    int v = number(0, 359, -1);
                    if (v < 0 || !word("to")) {
                        return;
                    }
                    int w = number(v, 359, -1);
                    if (w >= 0 && word(";")) {
                        out.summerFrom = v;
                        out.summerTo = w;
                    }
                }
                case "road" -> road();
                default -> wrong(2);
            }
        }

        void road() {
            if (out.towns == 0) {
                wrong(2);
                return;
            }
            if (out.roads.size() == 24) {
                wrong(4);
                return;
            }
            next++;
            int one = number(0, out.towns - 1, -1);
            if (one < 0 || !word("to")) {
                return;
            }
            int other = number(0, out.towns - 1, one);
            if (other < 0 || !word("toll")) {
                return;
            }
            int toll = number(0, 999, -1);
            if (toll < 0) {
                return;
            }
            int summer = toll;
            if (tokens.get(next).text.equals("summer")) {
                next++;
                summer = number(0, 999, -1);
                if (summer < 0) {
                    return;
                }
            }
            if (!word("days")) {
                return;
            }
            int days = number(1, 90, -1);
            if (days >= 0 && word(";")) {
                out.roads.add(new Road(one, other, toll, summer, days));
            }
        }
    }

    int fault(int what) {
        return what == 0 ? fault : what == 1 ? place : -1;
    }

    int road(int r, int what) {
        if (r < 0 || r >= s.roads.size() || what < 0 || what > 5) {
            return -2;
        }
        Road x = s.roads.get(r);
        return new int[] {x.one, x.other, x.toll, x.summerToll, x.days, s.closed.contains(r) ? 1 : 0}[what];
    }

    private List<Integer> openFrom(int town) {
        List<Integer> out = new ArrayList<>();
        for (int r = 0; r < s.roads.size(); r++) {
            if (!s.closed.contains(r) && s.roads.get(r).at(town)) {
                out.add(r);
            }
        }
        return out;
    }

    int from(int town) {
        if (town < 0 || town >= s.towns) {
            return -2;
        }
        int bits = 0;
        for (int r : openFrom(town)) {
            bits += 1 << r;
        }
        return bits;
    }

    int close(int r, boolean closed) {
        if (r < 0 || r >= s.roads.size()) {
            return -2;
        }
        boolean was = closed ? !s.closed.add(r) : s.closed.remove(r);
        return was ? 1 : 0;
    }

    private boolean summery(int day) {
        return day % 360 >= s.summerFrom && day % 360 <= s.summerTo;
    }

    private int toll(int r, int day) {
        return summery(day) ? s.roads.get(r).summerToll : s.roads.get(r).toll;
    }

    int when(int r, int day) {
        if (r < 0 || r >= s.roads.size()) {
            return -2;
        }
        if (day < 0 || day > 99999) {
            return -3;
        }
        int best = day;
        for (int d = day; d < day + 360; d++) {
            if (toll(r, d) < toll(r, best)) {
                best = d;
            }
        }
        return best;
    }

    int summer(int day) {
        return day < 0 ? -3 : summery(day) ? 1 : 0;
    }

    // ---- travellers

    int comes(int purse) {
        if (s.people.size() == 6 || s.towns == 0) {
            return -5;
        }
        if (purse < 0 || purse > 1000000) {
            return -3;
        }
        Person p = new Person();
        p.town = s.home;
        p.purse = purse;
        s.people.add(p);
        return s.people.size() - 1;
    }

    private boolean no(int i) {
        return i < 0 || i >= s.people.size();
    }

    private boolean noPair(int i, int other) {
        return no(i) || no(other) || i == other;
    }

    int of(int i, int what) {
        if (no(i) || what < 0 || what > 5) {
            return -2;
        }
        Person p = s.people.get(i);
        return new int[] {p.town, p.day, p.purse, p.slips.size(), p.paid, p.back}[what];
    }

    private boolean late(Slip x, int day) {
        return day - x.day > s.year;
    }

    private int worth(Slip x, int day) {
        return late(x, day) ? x.paid * s.late / 100 : x.paid;
    }

    int slip(int i, int k, int what) {
        if (no(i) || what < 0 || what > 5) {
            return -2;
        }
        Person p = s.people.get(i);
        if (k < 0 || k >= p.slips.size()) {
            return -7;
        }
        Slip x = p.slips.get(k);
        return new int[] {x.road, x.from, x.to, x.day, x.paid, worth(x, p.day)}[what];
    }

    /** GOING of a person, THE TREASURY aside. */
    private int goes(Person p, long road) {
        if (road < 0 || road >= s.roads.size()) {
            return -2;
        }
        int r = (int) road;
        if (s.closed.contains(r)) {
            return -8;
        }
        Road x = s.roads.get(r);
        if (!x.at(p.town)) {
            return -9;
        }
        int to = x.across(p.town);
        Slip top = p.top();
        if (top != null && top.road == r && top.to == p.town) {
            int coins = worth(top, p.day);
            p.drop();
            p.purse += coins;
            p.back += coins;
            p.town = to;
            p.day += x.days;
            return 1000 + coins;
        }
        int coins = toll(r, p.day);
        if (p.purse < coins) {
            return -5;
        }
        if (p.slips.size() == 40) {
            return -4;
        }
        p.slips.add(new Slip(r, p.town, to, p.day, coins));
        p.purse -= coins;
        p.paid += coins;
        p.town = to;
        p.day += x.days;
        return coins;
    }

    private int booked(Person p, long r) {
        int day = p.day;
        int answer = goes(p, r);
        if (answer >= 0) {
            int coins = answer >= 1000 ? 1000 - answer : answer;
            s.treasure += coins;
            s.ledger.merge(day, coins, Integer::sum);
        }
        return answer;
    }

    int go(int i, int r) {
        return no(i) ? -2 : booked(s.people.get(i), r);
    }

    int toss(int i) {
        if (no(i)) {
            return -2;
        }
        Person p = s.people.get(i);
        Slip top = p.top();
        if (top == null) {
            return -5;
        }
        p.drop();
        return top.paid;
    }

    int rest(int i, int days) {
        if (no(i)) {
            return -2;
        }
        if (days < 0 || days > 9999) {
            return -3;
        }
        Person p = s.people.get(i);
        if (p.day + days > 99999) {
            return -5;
        }
        p.day += days;
        return p.day;
    }

    int give(int i, int other, int coins) {
        if (noPair(i, other)) {
            return -2;
        }
        Person p = s.people.get(i);
        Person q = s.people.get(other);
        if (p.town != q.town || p.slips.isEmpty()) {
            return -5;
        }
        if (coins < 0 || coins > q.purse) {
            return -3;
        }
        if (q.slips.size() == 40) {
            return -4;
        }
        q.slips.add(p.top());
        p.drop();
        p.purse += coins;
        q.purse -= coins;
        return q.slips.size();
    }

    int change(int i, int other) {
        if (noPair(i, other)) {
            return -2;
        }
        Person p = s.people.get(i);
        Person q = s.people.get(other);
        if (p.town != q.town) {
            return -5;
        }
        List<Slip> kept = p.slips;
        p.slips = q.slips;
        q.slips = kept;
        return p.slips.size();
    }

    private boolean noRow(int row) {
        return row < 0 || row > 3;
    }

    int judge(int i, int row, int what) {
        if (no(i) || noRow(row) || what < 0 || what > 6) {
            return -2;
        }
        if (rows[row] == null) {
            return -6;
        }
        Person p = s.people.get(i);
        Person q = p.twin();
        int bad = -1;
        int why = 0;
        for (int k = 0; k < rows[row].length && bad < 0; k++) {
            int answer = goes(q, rows[row][k]);
            if (answer < 0) {
                bad = k;
                why = answer;
            }
        }
        return new int[] {bad, why, q.paid - p.paid, q.back - p.back, q.slips.size(), q.town, q.day}[what];
    }

    int perform(int i, int row) {
        if (no(i) || noRow(row)) {
            return -2;
        }
        if (rows[row] == null) {
            return -6;
        }
        int went = 0;
        for (long r : rows[row]) {
            if (booked(s.people.get(i), r) < 0) {
                break;
            }
            went++;
        }
        return went;
    }

    // ---- the treasury

    int treasury(int what) {
        int all = 0;
        int late = 0;
        for (Person p : s.people) {
            for (Slip x : p.slips) {
                all++;
                if (late(x, p.day)) {
                    late++;
                }
            }
        }
        return what == 0 ? s.treasure : what == 1 ? all : what == 2 ? late : -1;
    }

    int owes(int day) {
        if (day < 0) {
            return -3;
        }
        int sum = 0;
        for (Person p : s.people) {
            for (Slip x : p.slips) {
                sum += worth(x, day);
            }
        }
        return sum;
    }

    int lapse() {
        int first = -1;
        for (Person p : s.people) {
            for (Slip x : p.slips) {
                int day = x.day;
                while (!late(x, day)) {
                    day++;
                }
                if (first < 0 || day < first) {
                    first = day;
                }
            }
        }
        return first;
    }

    int blocked(int i) {
        if (no(i)) {
            return -2;
        }
        int high = 0;
        int k = 0;
        for (Slip x : s.people.get(i).slips) {
            k++;
            if (s.closed.contains(x.road)) {
                high = k;
            }
        }
        return high;
    }

    // ---- home

    /** What is had back, days, how many are late, set out on a DAY; null if it can't be. */
    private int[] back(Person p, int day) {
        Person q = p.twin();
        q.day = day;
        int late = 0;
        int sum = 0;
        while (q.top() != null) {
            Slip top = q.top();
            boolean isLate = late(top, q.day);
            int answer = goes(q, top.road);
            if (answer < 1000) {
                return null;
            }
            late += isLate ? 1 : 0;
            sum += answer - 1000;
        }
        return new int[] {sum, q.day - day, late};
    }

    int homeward(int i, int what) {
        if (no(i) || what < 0 || what > 2) {
            return -2;
        }
        Person p = s.people.get(i);
        // A full row of SLIPS or an empty PURSE must not be in the way of the twin: none pays.
        int[] way = back(p, p.day);
        return way == null ? -1 : way[what];
    }

    int safe(int i) {
        if (no(i)) {
            return -2;
        }
        Person p = s.people.get(i);
        if (p.slips.isEmpty() || back(p, p.day) == null) {
            return -1;
        }
        int best = -1;
        for (int day = p.day; back(p, day)[2] == 0; day++) {
            best = day;
        }
        return best;
    }

    int needs(int i, int row) {
        if (no(i) || noRow(row)) {
            return -2;
        }
        if (rows[row] == null) {
            return -6;
        }
        if (!canAll(s.people.get(i), row, 1000000)) {
            return -1;
        }
        int low = 0;
        int high = 1000000;
        while (low < high) {
            int mid = (low + high) / 2;
            if (canAll(s.people.get(i), row, mid)) {
                high = mid;
            } else {
                low = mid + 1;
            }
        }
        return low;
    }

    private boolean canAll(Person p, int row, int purse) {
        Person q = p.twin();
        q.purse = purse;
        for (long r : rows[row]) {
            if (goes(q, r) < 0) {
                return false;
            }
        }
        return true;
    }

    /** CHEAPEST HOMEWARD: cost and ROADS; null if there is no way. All STEPS till nothing changes. */
    private int[] cheap(int town, int day, List<Slip> slips) {
        int n = slips.size();
        int[][][] best = new int[s.towns][n + 1][];
        best[town][n] = new int[] {0, 0};
        boolean changed = true;
        while (changed) {
            changed = false;
            for (int t = 0; t < s.towns; t++) {
                for (int k = n; k >= 0; k--) {
                    if (best[t][k] == null) {
                        continue;
                    }
                    int cost = best[t][k][0];
                    int roads = best[t][k][1];
                    if (k > 0) {
                        changed |= better(best, t, k - 1, cost, roads);
                        Slip x = slips.get(k - 1);
                        if (!s.closed.contains(x.road) && x.to == t) {
                            changed |= better(best, x.from, k - 1, cost - worth(x, day), roads + 1);
                        }
                    }
                    for (int r : openFrom(t)) {
                        changed |= better(best, s.roads.get(r).across(t), k, cost + toll(r, day), roads + 1);
                    }
                }
            }
        }
        int[] least = null;
        for (int k = 0; k <= n; k++) {
            int[] one = best[s.home][k];
            if (one != null && (least == null || Arrays.compare(one, least) < 0)) {
                least = one;
            }
        }
        return least;
    }

    private static boolean better(int[][][] best, int t, int k, int cost, int roads) {
        int[] now = {cost, roads};
        if (best[t][k] != null && Arrays.compare(best[t][k], now) <= 0) {
            return false;
        }
        best[t][k] = now;
        return true;
    }

    private int[] cheap(Person p) {
        return cheap(p.town, p.day, p.slips);
    }

    int partner(int i) {
        if (no(i)) {
            return -2;
        }
        int best = -1;
        int most = 0;
        Person p = s.people.get(i);
        for (int j = 0; j < s.people.size(); j++) {
            Person q = s.people.get(j);
            if (j == i || q.town != p.town || cheap(p) == null) {
                continue;
            }
            int a = cheap(p)[0] - cheap(p.town, p.day, q.slips)[0];
            int b = cheap(q)[0] - cheap(q.town, q.day, p.slips)[0];
            if (a >= 0 && b >= 0 && a + b > most) {
                most = a + b;
                best = j;
            }
        }
        return best;
    }

    int cheapest(int i, int what) {
        if (no(i) || what < 0 || what > 1) {
            return -2;
        }
        int[] way = cheap(s.people.get(i));
        return way != null ? way[what] : what == 0 ? NO_WAY : -1;
    }

    private static int less(int[] before, int[] after) {
        return before == null || after == null ? NO_WAY : before[0] - after[0];
    }

    int price(int i, int other) {
        if (noPair(i, other)) {
            return -2;
        }
        Person p = s.people.get(i);
        Person q = s.people.get(other);
        if (p.slips.isEmpty()) {
            return -5;
        }
        if (q.slips.size() == 40) {
            return -4;
        }
        List<Slip> with = new ArrayList<>(q.slips);
        with.add(p.top());
        return less(cheap(q), cheap(q.town, q.day, with));
    }

    int gain(int i, int other, int what) {
        if (noPair(i, other) || what < 0 || what > 1) {
            return -2;
        }
        Person p = s.people.get(what == 0 ? i : other);
        Person q = s.people.get(what == 0 ? other : i);
        return less(cheap(p), cheap(p.town, p.day, q.slips));
    }

    private int tried;
    private List<Integer> bestTour;
    private int bestPurse;

    int through(int i, int wanted, int n, int what) {
        if (no(i) || !(what == 0 || what == 1 || what >= 10 && what <= 17)) {
            return -2;
        }
        if (wanted < 0 || wanted >= 1 << s.towns || n < 0 || n > 8) {
            return -3;
        }
        tried = 0;
        bestTour = null;
        Person p = s.people.get(i);
        tour(p, wanted & ~(1 << p.town), n, new ArrayList<>());
        if (tried > 100000) {
            return -4;
        }
        if (bestTour == null) {
            return what == 0 ? NO_WAY : -1;
        }
        if (what < 2) {
            return what == 0 ? bestPurse - p.purse : bestTour.size();
        }
        return what - 10 < bestTour.size() ? bestTour.get(what - 10) : -1;
    }

    private void tour(Person p, int missing, int left, List<Integer> so) {
        if (p.town == s.home && missing == 0) {
            boolean better = bestTour == null || p.purse > bestPurse
                    || p.purse == bestPurse && so.size() < bestTour.size();
            if (better) {
                bestTour = new ArrayList<>(so);
                bestPurse = p.purse;
            }
        }
        if (left == 0) {
            return;
        }
        for (int r = 0; r < s.roads.size() && tried <= 100000; r++) {
            Person q = p.twin();
            if (goes(q, r) >= 0) {
                tried++;
                so.add(r);
                tour(q, missing & ~(1 << q.town), left - 1, so);
                so.remove(so.size() - 1);
            }
        }
    }

    private int noSlips(int row) {
        if (noRow(row)) {
            return -2;
        }
        if (s.towns == 0) {
            return -5;
        }
        if (rows[row] == null) {
            return -6;
        }
        for (long v : rows[row]) {
            if (v < 0 || v >= 2L * s.roads.size()) {
                return -3;
            }
        }
        return 0;
    }

    private List<Long> asList(long[] row) {
        List<Long> out = new ArrayList<>();
        for (long v : row) {
            out.add(v);
        }
        return out;
    }

    private int start(long mark) {
        Road r = s.roads.get((int) (mark / 2));
        return mark % 2 == 0 ? r.one : r.other;
    }

    private int end(long mark) {
        Road r = s.roads.get((int) (mark / 2));
        return mark % 2 == 0 ? r.other : r.one;
    }

    /** How many rows of ROADS lead from some SLIPS open to others: by all of them, the same ones once. */
    private BigInteger rowsTo(List<Long> now, List<Long> want, int left, Map<List<Long>, BigInteger> known) {
        if (left == 0) {
            return now.equals(want) ? BigInteger.ONE : BigInteger.ZERO;
        }
        if (now.size() > want.size() + left || want.size() > now.size() + left) {
            return BigInteger.ZERO;
        }
        List<Long> key = new ArrayList<>(now);
        key.add((long) left);
        BigInteger sum = known.get(key);
        if (sum == null) {
            sum = BigInteger.ZERO;
            for (int r : openFrom(townOf(now))) {
                sum = sum.add(rowsTo(gone(now, r), want, left - 1, known));
            }
            known.put(key, sum);
        }
        return sum;
    }

    private int townOf(List<Long> slips) {
        return slips.isEmpty() ? s.home : end(slips.get(slips.size() - 1));
    }

    private List<Long> gone(List<Long> slips, int r) {
        List<Long> then = new ArrayList<>(slips);
        int town = townOf(slips);
        if (!slips.isEmpty() && slips.get(slips.size() - 1) / 2 == r) {
            then.remove(then.size() - 1);
        } else {
            then.add(2L * r + (s.roads.get(r).one == town ? 0 : 1));
        }
        return then;
    }

    int journeys(int row, int n) {
        int code = noSlips(row);
        if (code != 0) {
            return code;
        }
        if (n < 0 || n > 40) {
            return -3;
        }
        return rowsTo(new ArrayList<>(), asList(rows[row]), n, new HashMap<>())
                .mod(BigInteger.valueOf(1000000007)).intValue();
    }

    int forged(int row) {
        int code = noSlips(row);
        if (code != 0) {
            return code;
        }
        for (int k = 0; k < rows[row].length; k++) {
            long mark = rows[row][k];
            if (k == 0 ? start(mark) != s.home : start(mark) != end(rows[row][k - 1])) {
                return k;
            }
            if (k > 0 && rows[row][k - 1] / 2 == mark / 2 && rows[row][k - 1] != mark) {
                return k;
            }
        }
        return -1;
    }

    int journey(int row, int n, int k, int i) {
        int code = noSlips(row);
        if (code != 0) {
            return code;
        }
        if (n < 0 || n > 40 || k < 0) {
            return -3;
        }
        if (i < 0 || i >= n) {
            return -1;
        }
        List<Long> now = new ArrayList<>();
        Map<List<Long>, BigInteger> known = new HashMap<>();
        BigInteger left = BigInteger.valueOf(k);
        for (int place = 0; place < n; place++) {
            int chosen = -1;
            for (int r : openFrom(townOf(now))) {
                BigInteger there = rowsTo(gone(now, r), asList(rows[row]), n - place - 1, known);
                if (left.compareTo(there) < 0) {
                    chosen = r;
                    break;
                }
                left = left.subtract(there);
            }
            if (chosen < 0 || place == i) {
                return chosen;
            }
            now = gone(now, chosen);
        }
        return -1;
    }

    private List<Integer> bestLane;

    int lane(int one, int other, int day, int what) {
        boolean told = what >= 0 && what <= 2 || what >= 10 && what <= 20;
        if (one < 0 || one >= s.towns || other < 0 || other >= s.towns || !told) {
            return -2;
        }
        if (day < 0) {
            return -3;
        }
        bestLane = null;
        lanes(one, other, day, 1 << one, new ArrayList<>());
        if (bestLane == null) {
            return -1;
        }
        if (what < 3) {
            return laneKey(bestLane, day)[what];
        }
        return what - 10 < bestLane.size() ? bestLane.get(what - 10) : -1;
    }

    private int[] laneKey(List<Integer> lane, int day) {
        int tolls = 0;
        int days = 0;
        for (int r : lane) {
            tolls += toll(r, day);
            days += s.roads.get(r).days;
        }
        return new int[] {tolls, days, lane.size()};
    }

    private void lanes(int town, int end, int day, int seen, List<Integer> so) {
        if (town == end) {
            if (bestLane == null || Arrays.compare(laneKey(so, day), laneKey(bestLane, day)) < 0) {
                bestLane = new ArrayList<>(so);
            }
            return;
        }
        for (int r : openFrom(town)) {
            int next = s.roads.get(r).across(town);
            if ((seen >> next & 1) == 0) {
                so.add(r);
                lanes(next, end, day, seen | 1 << next, so);
                so.remove(so.size() - 1);
            }
        }
    }

    private record Stand(List<Long> slips, int seen, int days) { }

    /** The least days over all SLIPS that can be open and all TOWNS seen. */
    int box(int wanted) {
        if (s.towns == 0) {
            return -5;
        }
        if (wanted < 0 || wanted >= 1 << s.towns) {
            return -3;
        }
        PriorityQueue<Stand> queue = new PriorityQueue<>(Comparator.comparingInt(Stand::days));
        Set<List<Object>> done = new HashSet<>();
        queue.add(new Stand(new ArrayList<>(), 1 << s.home, 0));
        while (!queue.isEmpty()) {
            Stand a = queue.poll();
            if (a.slips.isEmpty() && (a.seen & wanted) == wanted) {
                return a.days;
            }
            if (!done.add(List.of(a.slips, a.seen))) {
                continue;
            }
            for (int r : openFrom(townOf(a.slips))) {
                List<Long> then = gone(a.slips, r);
                if (then.size() <= s.towns) {
                    queue.add(new Stand(then, a.seen | 1 << townOf(then), a.days + s.roads.get(r).days));
                }
            }
        }
        return -1;
    }

    /** The same for large kingdoms: the least tree that joins HOME and the wanted ones, twice, by subsets. */
    int boxByTrees(int wanted) {
        if (s.towns == 0 || wanted < 0 || wanted >= 1 << s.towns) {
            return box(wanted);
        }
        long[][] tree = new long[1 << s.towns][s.towns];
        long far = Integer.MAX_VALUE;
        for (int set = 1; set < 1 << s.towns; set++) {
            for (int t = 0; t < s.towns; t++) {
                tree[set][t] = set == 1 << t ? 0 : far;
                for (int part = (set - 1) & set; part > 0; part = (part - 1) & set) {
                    tree[set][t] = Math.min(tree[set][t], tree[part][t] + tree[set ^ part][t]);
                }
            }
            for (int round = 0; round < s.towns; round++) {
                for (int t = 0; t < s.towns; t++) {
                    for (int r : openFrom(t)) {
                        int to = s.roads.get(r).across(t);
                        tree[set][to] = Math.min(tree[set][to], tree[set][t] + s.roads.get(r).days);
                    }
                }
            }
        }
        long days = tree[wanted | 1 << s.home][s.home];
        return days >= far ? -1 : (int) (2 * days);
    }

    private Set<Integer> reached(int without) {
        Set<Integer> seen = new HashSet<>(Collections.singleton(s.home));
        List<Integer> todo = new ArrayList<>(seen);
        while (!todo.isEmpty()) {
            int town = todo.remove(0);
            for (int r : openFrom(town)) {
                if (r != without && seen.add(s.roads.get(r).across(town))) {
                    todo.add(s.roads.get(r).across(town));
                }
            }
        }
        return seen;
    }

    int cutOff(int r) {
        if (r < 0 || r >= s.roads.size()) {
            return -2;
        }
        Set<Integer> lost = reached(-1);
        lost.removeAll(reached(r));
        int bits = 0;
        for (int town : lost) {
            bits += 1 << town;
        }
        return bits;
    }

    int ledger(int from, int to) {
        if (from < 0 || from > 719 || to < 0 || to > 719 || to < from) {
            return -3;
        }
        int sum = 0;
        for (Map.Entry<Integer, Integer> e : s.ledger.entrySet()) {
            if (e.getKey() >= from && e.getKey() <= to) {
                sum += e.getValue();
            }
        }
        return sum;
    }

    private Map<Integer, Integer> stays(Person p, long[] row, int lastDay) {
        Map<Integer, Integer> out = new HashMap<>();
        Person q = p.twin();
        out.put(q.day, q.town);
        for (long r : row) {
            if (goes(q, r) < 0) {
                break;
            }
            out.put(q.day, q.town);
        }
        for (int day = q.day; day <= lastDay; day++) {
            out.put(day, q.town);
        }
        return out;
    }

    int meet(int i, int row, int other, int otherRow, int what) {
        if (noPair(i, other) || noRow(row) || noRow(otherRow) || what < 0 || what > 1) {
            return -2;
        }
        if (rows[row] == null || rows[otherRow] == null) {
            return -6;
        }
        Person p = s.people.get(i);
        Person q = s.people.get(other);
        int last = Math.max(p.day, q.day) + 4000;
        Map<Integer, Integer> a = stays(p, rows[row], last);
        Map<Integer, Integer> b = stays(q, rows[otherRow], last);
        for (int day = Math.min(p.day, q.day); day <= last; day++) {
            if (a.containsKey(day) && a.get(day).equals(b.get(day))) {
                return what == 0 ? day : a.get(day);
            }
        }
        return -1;
    }

    int fair(int i, int seed, int times) {
        if (no(i)) {
            return -2;
        }
        if (times < 1 || times > 40) {
            return -3;
        }
        int x = seed;
        int went = 0;
        while (went < times) {
            List<Integer> open = openFrom(s.people.get(i).town);
            if (open.isEmpty()) {
                break;
            }
            x = x * 1103515245 + 12345;
            if (booked(s.people.get(i), open.get((x >>> 16) % open.size())) < 0) {
                break;
            }
            went++;
        }
        return went;
    }

    // ---- rows of numbers, images

    int numbers(int row, int sort, int n) {
        if (noRow(row) || sort < 0 || sort > 3) {
            return -2;
        }
        if (n < 0 || n > 40) {
            return -3;
        }
        rows[row] = new long[n];
        sorts[row] = sort;
        return 0;
    }

    long write(int row, int i, long v) {
        if (noRow(row)) {
            return -2;
        }
        if (rows[row] == null) {
            return -6;
        }
        if (i < 0 || i >= rows[row].length) {
            return -7;
        }
        int gone = 64 - (8 << sorts[row]);
        rows[row][i] = v << gone >> gone;
        return rows[row][i];
    }

    int copy(int i, int row) {
        if (no(i) || noRow(row)) {
            return -2;
        }
        if (rows[row] == null) {
            return -6;
        }
        List<Slip> slips = s.people.get(i).slips;
        if (slips.size() > rows[row].length) {
            return -7;
        }
        for (int k = 0; k < slips.size(); k++) {
            Slip x = slips.get(k);
            rows[row][k] = 2L * x.road + (x.from == s.roads.get(x.road).one ? 0 : 1);
        }
        return slips.size();
    }

    int image(int i) {
        if (i < 0 || i > 1) {
            return -2;
        }
        images[i] = s.twin();
        return 0;
    }

    int restore(int i) {
        if (i < 0 || i > 1) {
            return -2;
        }
        if (images[i] == null) {
            return -5;
        }
        s = images[i].twin();
        return 0;
    }

    int count(int what) {
        int[] all = {s.towns, s.roads.size(), s.people.size(), s.towns == 0 ? -1 : s.home, s.year, s.late,
            s.closed.size(), tape.length, s.lines};
        return what < 0 || what >= all.length ? -1 : all[what];
    }
}

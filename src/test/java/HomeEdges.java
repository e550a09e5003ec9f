import java.util.Arrays;

/** The edges that the document names of ways home and of what SLIPS are worth: promises 24 to 31. */
final class HomeEdges {
    private static final int MIN = Realms.MIN;
    private static final int MAX = Realms.MAX;
    private static final int NO_WAY = -1000000;

    private final Check c;

    HomeEdges(Check c) {
        this.c = c;
    }

    void all() {
        homeward();
        homewardCannotBe();
        safe();
        needs();
        needsRefused();
        partner();
        partnerOfMany();
        cheapest();
        cheapestSteps();
        cheapestNoWay();
        price();
        priceRefused();
        gain();
        throughBounds();
        throughBest();
        throughRefused();
        throughFull();
    }

    /** busy() with all ROADS open. */
    private static TollsBack open() {
        TollsBack x = Realms.busy();
        x.close(1, false);
        return x;
    }

    private void homeward() {
        c.says(24, "HOMEWARD by all SLIPS, what 0: all that he has back (WORTH as on the DAY on which he sets out each "
                + "time), 1: days, 2: how many are late then.");
        int[][] due = {{8, 17, 8, 0}, {97, 17, 8, 0}, {98, 11, 8, 1}, {105, 11, 8, 1}, {106, 6, 8, 2}, {9000, 6, 8, 2}};
        for (int[] d : due) {
            TollsBack x = open();
            x.rest(0, d[0] - 8);
            c.dueEach("on DAY " + d[0] + ": homeward(0, #)", what -> x.homeward(0, what), d[1], d[2], d[3]);
            c.due("what comes of it", x.go(0, 1) + x.go(0, 0) - 2000, d[1]);
            c.dueEach("without SLIPS: homeward(0, #)", what -> x.homeward(0, what), 0, 0, 0);
        }
        TollsBack y = Realms.withForty();
        c.dueEach("all forty: homeward(0, #)", what -> y.homeward(0, what), 180, 60, 0);
        y.go(0, 1);
        y.go(0, 0);
        c.dueEach("to HOME and away: homeward(0, #)", what -> y.homeward(0, what), 171, 57, 0);
    }

    private void homewardCannotBe() {
        c.says(Check.TERMS, "HOMEWARD by all SLIPS: from the top on, each is had back in turn; it can't be, if one's ROAD "
                + "is closed, or doesn't lead from where he is then.");
        c.says(24, "NONE: it can't be; -2.");
        c.on(Realms::busy);
        c.stayAll("the top one's ROAD is closed: homeward(0, #)", (x, what) -> x.homeward(0, what), -1, 0, 1, 2);
        c.on(() -> {
            TollsBack x = open();
            x.close(0, true);
            return x;
        });
        c.stayAll("the lowest one's ROAD is closed: homeward(0, #)", (x, what) -> x.homeward(0, what), -1, 0, 1, 2);
        c.stays("none of his", x -> x.homeward(1, 0), 30);
        c.on(() -> {
            TollsBack x = open();
            x.toss(0);
            return x;
        });
        c.stayAll("the next one's doesn't lead from here: homeward(0, #)", (x, what) -> x.homeward(0, what), -1, 0, 1, 2);
        TollsBack y = open();
        y.give(1, 0, 0);
        c.due("the second one's doesn't lead from where he is then", y.homeward(0, 0), -1);
        y.toss(0);
        c.due("tossed", y.homeward(0, 0), 17);
        TollsBack z = Check.realm(Realms.PAIR);
        z.comes(9);
        z.go(0, 0);
        z.go(0, 1);
        z.toss(0);
        c.due("he can't have it back where it begins", z.homeward(0, 0), -1);
        c.on(Realms::busy);
        c.stayAll("homeward(#, 0)", (x, i) -> x.homeward(i, 0), -2, -1, 3, MIN, MAX);
        c.stayAll("homeward(1, #)", (x, what) -> x.homeward(1, what), -2, -1, 3, MIN, MAX);
    }

    private void safe() {
        c.says(25, "The latest DAY on which he can set out HOMEWARD by all SLIPS with none of them late.");
        TollsBack x = open();
        c.due("the lower one of DAY 0 is three days away", x.safe(0), 97);
        c.due("one of DAY 0", x.safe(1), 100);
        x.rest(0, 89);
        c.due("on this DAY", x.safe(0), 97);
        c.due("none is late", x.homeward(0, 2), 0);
        TollsBack y = Check.realm(Realms.ROUND);
        y.comes(100);
        y.comes(100);
        y.rest(1, 50);
        for (int i = 0; i < 2; i++) {
            y.go(i, 0);
            y.go(i, 1);
        }
        y.toss(1);
        y.give(0, 1, 0);
        c.due("the top one is the older", y.safe(1), 105);
        c.says(25, "NONE: HOMEWARD can't be, there are no SLIPS, or the DAY is past (his DAY is later); -2 (as a number alone).");
        x.rest(0, 1);
        c.due("it is past", x.safe(0), -1);
        c.due("one is late", x.homeward(0, 2), 1);
        x.rest(1, 99);
        c.due("his DAY is 100", x.safe(1), 100);
        x.rest(1, 1);
        c.due("his DAY is 101", x.safe(1), -1);
        c.on(Realms::busy);
        c.stays("closed: safe(0)", z -> z.safe(0), -1);
        c.stays("no SLIPS: safe(2)", z -> z.safe(2), -1);
        c.stayAll("safe(#)", TollsBack::safe, -2, -1, 3, MIN, MAX);
        c.stays("safe(1)", z -> z.safe(1), 100);
        TollsBack w = open();
        w.give(1, 0, 0);
        c.due("it doesn't lead on", w.safe(0), -1);
    }

    private void dueNeeds(TollsBack x, int i, int want, long... roads) {
        Check.row(x, 3, roads);
        c.due("needs(" + i + ") " + Arrays.toString(roads), x.needs(i, 3), want);
    }

    private void needs() {
        c.says(26, "The least PURSE with which, coins aside, all of a ROW of ROADS can be gone from where he is (in place of his).");
        TollsBack x = open();
        dueNeeds(x, 0, 0);
        dueNeeds(x, 0, 0, 1, 0);
        dueNeeds(x, 0, 30, 2);
        dueNeeds(x, 0, 47, 2, 0, 1);
        dueNeeds(x, 0, 13, 1, 0, 2);
        dueNeeds(x, 0, 30, 2, 2, 2, 2, 1, 0);
        dueNeeds(x, 2, 10, 0);
        dueNeeds(x, 2, 17, 0, 1, 1, 0);
        x.rest(0, 272);
        dueNeeds(x, 0, 24, 1, 0, 2);
        TollsBack y = Check.realm("towns 2;road 0 to 1 toll 999 days 90;road 0 to 1 toll 999 days 90;");
        y.comes(0);
        dueNeeds(y, 0, 39960, Check.byTurns(40, 0, 1));
        dueNeeds(y, 0, 999, Check.byTurns(40, 0, 0));
        TollsBack z = Check.realm("towns 2;road 0 to 1 toll 7 days 1;");
        z.comes(0);
        dueNeeds(z, 0, 7, 0);
        Check.row(z, 3, 0);
        z.comes(6);
        z.comes(7);
        c.due("with one coin less", z.perform(1, 3), 0);
        c.due("with just so many", z.perform(2, 3), 1);
    }

    private void needsRefused() {
        c.says(26, "NONE: it can't be for other reasons; -2: the TRAVELLER, ROW; -6.");
        TollsBack x = Realms.busy();
        dueNeeds(x, 0, -1, 1);
        dueNeeds(x, 0, -1, 0);
        dueNeeds(x, 0, -1, 2, 3);
        dueNeeds(x, 0, -1, -1);
        dueNeeds(x, 0, -1, 1L << 40);
        TollsBack y = Realms.withForty();
        dueNeeds(y, 0, -1, 0);
        dueNeeds(y, 0, -1, 1, 1, 1, 1, 0);
        dueNeeds(y, 0, 0, 1, 1);
        c.on(Realms::busy);
        c.stayAll("needs(#, 2)", (z, i) -> z.needs(i, 2), -2, -1, 3, MIN, MAX);
        c.stayAll("needs(0, #)", (z, row) -> z.needs(0, row), -2, -1, 4, MIN, MAX);
        c.stays("needs(0, 3)", z -> z.needs(0, 3), -6);
        c.stays("needs(3, 3)", z -> z.needs(3, 3), -2);
        c.stays("needs(0, 2)", z -> z.needs(0, 2), 0);
        c.stays("needs(0, 0)", z -> z.needs(0, 0), -1);
    }

    /**
     * Five in TOWN 1. The first has a SLIP of 3 coins that is late for him, as all of DAY 0 are; the
     * others, if they have one, have it of DAY 0, and it isn't late for them.
     */
    private static TollsBack swap(int... roads) {
        TollsBack x = Check.realm("towns 2;road 0 to 1 toll 3 days 1;road 0 to 1 toll 2 days 1;"
                + "road 0 to 1 toll 1 days 1;year 30;late 0;");
        x.comes(100);
        x.go(0, 0);
        x.rest(0, 30);
        for (int i = 0; i < roads.length; i++) {
            x.comes(100);
            x.go(i + 1, Math.max(0, roads[i]));
            if (roads[i] < 0) {
                x.toss(i + 1);
            }
        }
        return x;
    }

    private void partner() {
        c.says(27, "Of all others in his TOWN that one by a change of SLIPS with whom no one's CHEAPEST HOMEWARD is "
                + "dearer, and both together gain most (above 0); the first of like ones. NONE: there is none; -2.");
        c.due("together nothing", swap(0).partner(0), -1);
        TollsBack x = swap(1);
        c.due("together one", x.partner(0), 1);
        c.due("and the other way about", x.partner(1), 0);
        c.due("none loses", x.gain(0, 1, 0), 0);
        c.due("one gains", x.gain(0, 1, 1), 1);
        TollsBack y = swap(-1);
        c.due("one would lose: to pay 1 is dearer than nothing", y.gain(0, 1, 0), -1);
        c.due("though both together would gain", y.gain(0, 1, 1), 4);
        c.due("none", y.partner(0), -1);
        c.due("none", y.partner(1), -1);
        TollsBack z = swap(1);
        z.go(1, 0);
        z.toss(1);
        c.due("one at HOME would gain: there for 1, back for 3 in place of 2", z.gain(0, 1, 1), 1);
        c.due("none would lose", z.gain(0, 1, 0), 0);
        c.due("but who is elsewhere is none", z.partner(0), -1);
        c.due("nor is he for that one", z.partner(1), -1);
        c.due("alone", swap().partner(0), -1);
        c.on(() -> swap(1));
        c.stayAll("partner(#)", TollsBack::partner, -2, -1, 2, 6, MIN, MAX);
        c.stays("nothing is changed", v -> v.partner(0), 1);
    }

    private void partnerOfMany() {
        c.due("the first of like ones", swap(0, 1, 1).partner(0), 2);
        c.due("who gains most, behind", swap(1, 2).partner(0), 2);
        c.due("who gains most, ahead", swap(2, 1).partner(0), 1);
        TollsBack x = swap(1, 2, -1, 0, 2);
        c.due("six in all: the first of those who gain most", x.partner(0), 2);
        c.due("the last one's", x.partner(5), 0);
        c.due("the third one's: 2 by the first, 1 by the second, 2 by the fifth", x.partner(2), 0);
        x.close(0, true);
        c.due("the ROAD of the one that is wanted is closed", x.partner(2), -1);
        x.close(1, true);
        x.close(2, true);
        c.due("no way for any", x.partner(0), -1);
    }

    private void dueCheapest(String name, TollsBack x, int i, int cost, int roads) {
        c.due(name + ": cheapest(" + i + ", 0)", x.cheapest(i, 0), cost);
        c.due(name + ": cheapest(" + i + ", 1)", x.cheapest(i, 1), roads);
    }

    private void cheapest() {
        c.says(Check.TERMS, "CHEAPEST HOMEWARD: all tolls and WORTHS as on his DAY, no PURSE asked.");
        c.says(28, "CHEAPEST HOMEWARD, what 0: the cost, 1: how many ROADS.");
        TollsBack x = open();
        dueCheapest("both had back", x, 0, -17, 2);
        dueCheapest("one had back", x, 1, -30, 1);
        dueCheapest("no STEP", x, 2, 0, 0);
        x.rest(1, 99);
        dueCheapest("DAY 100: a year old", x, 1, -30, 1);
        x.rest(1, 1);
        dueCheapest("DAY 101: late", x, 1, -12, 1);
        TollsBack y = Check.realm(Realms.ROUND);
        y.comes(30);
        y.go(0, 2);
        y.toss(0);
        y.close(1, true);
        c.due("no coin", y.of(0, 2), 0);
        dueCheapest("no PURSE asked", y, 0, 30, 1);
        y.rest(0, 88);
        dueCheapest("DAY 89", y, 0, 30, 1);
        y.rest(0, 1);
        dueCheapest("DAY 90: summer", y, 0, 3, 1);
        y.rest(0, 179);
        dueCheapest("DAY 269: summer", y, 0, 3, 1);
        y.rest(0, 1);
        dueCheapest("DAY 270", y, 0, 30, 1);
        TollsBack z = Check.realm("towns 2;summer 0 to 0;year 5;late 0;road 0 to 1 toll 9 summer 1 days 5;");
        z.comes(9);
        z.go(0, 0);
        z.rest(0, 1);
        dueCheapest("the SLIP is late on his DAY, be the way as it may", z, 0, 0, 1);
    }

    private void cheapestSteps() {
        c.says(Check.TERMS, "He stands in a TOWN with so many of his SLIPS from the bottom; a STEP: the top one of these is "
                + "tossed (for nothing, no ROAD); by an open ROAD for its toll into another TOWN (these SLIPS are as they "
                + "were); by the ROAD of the top one of these, if open and he stands where it leads to, back to where it "
                + "came from: its WORTH is got, it is gone.");
        dueCheapest("the closed one tossed, 30 paid", Realms.busy(), 0, 30, 1);
        TollsBack x = open();
        x.close(0, true);
        dueCheapest("7 had back, then the next can't be: there and back, or 30 at once", x, 0, 30, 1);
        TollsBack y = Check.realm(Realms.ROUND);
        y.comes(100);
        y.rest(0, 269);
        y.go(0, 0);
        y.go(0, 1);
        y.go(0, 2);
        y.toss(0);
        y.toss(0);
        dueCheapest("at HOME: there for 10, back for 20", y, 0, -10, 2);
        y.close(0, true);
        dueCheapest("its ROAD is closed", y, 0, 0, 0);
        c.says(Check.TERMS, "Of all rows of STEPS (none, too) that end at HOME, with whatever SLIPS, that with the least cost "
                + "(what is got counts below 0); of like ones the fewest ROADS.");
        TollsBack z = Check.realm("towns 3;road 0 to 1 toll 5 days 1;road 1 to 2 toll 7 days 1;road 1 to 2 toll 7 days 1;");
        z.comes(100);
        z.comes(100);
        z.go(0, 0);
        z.go(0, 1);
        z.go(0, 2);
        z.toss(0);
        z.go(1, 0);
        z.give(0, 1, 0);
        dueCheapest("the top one there and back costs as much as to toss it", z, 1, -5, 1);
        TollsBack w = Check.realm("towns 4;road 0 to 1 toll 0 days 1;road 1 to 2 toll 0 days 1;road 2 to 3 toll 0 days 1;"
                + "road 3 to 0 toll 0 days 1;road 1 to 3 toll 0 days 1;");
        w.comes(0);
        dueCheapest("at HOME: none", w, 0, 0, 0);
        w.go(0, 0);
        dueCheapest("one", w, 0, 0, 1);
        w.go(0, 1);
        dueCheapest("all cost nothing: two", w, 0, 0, 2);
        w.go(0, 2);
        dueCheapest("three SLIPS, but one ROAD", w, 0, 0, 1);
        TollsBack v = Check.realm(Realms.longRow() + "late 100;");
        v.comes(1000000);
        Check.row(v, 0, 0, 1, 2, 3, 4, 5, 6, 7, 8, 9, 10);
        v.perform(0, 0);
        dueCheapest("all got", v, 0, -10989, 11);
        for (int k = 0; k < 11; k++) {
            v.toss(0);
        }
        dueCheapest("all paid", v, 0, 10989, 11);
        TollsBack u = Realms.withForty();
        dueCheapest("forty at HOME", u, 0, -180, 40);
        TollsBack t = Check.realm(Realms.LINE);
        t.comes(10);
        Check.row(t, 0, 0, 1, 2);
        t.perform(0, 0);
        t.toss(0);
        t.toss(0);
        dueCheapest("no SLIP from here: 5 paid, 1 had back", t, 0, 4, 3);
        t.toss(0);
        t.go(0, 3);
        dueCheapest("4 had back, then 6 paid", t, 0, 2, 4);
    }

    private void cheapestNoWay() {
        c.says(28, "-1000000: there is no way (what 0), NONE (what 1); -2 (as a number alone).");
        c.on(() -> {
            TollsBack x = Realms.busy();
            x.close(2, true);
            return x;
        });
        c.stays("no way: cheapest(0, 0)", x -> x.cheapest(0, 0), NO_WAY);
        c.stays("no way: cheapest(0, 1)", x -> x.cheapest(0, 1), -1);
        c.stays("he is at HOME: cheapest(2, 0)", x -> x.cheapest(2, 0), 0);
        c.stayAll("cheapest(0, #)", (x, what) -> x.cheapest(0, what), -2, -1, 2, MIN, MAX);
        c.on(Realms::busy);
        c.stayAll("cheapest(#, 0)", (x, i) -> x.cheapest(i, 0), -2, -1, 3, MIN, MAX);
        TollsBack y = Check.realm("towns 2;road 0 to 1 toll 2 days 1;");
        y.comes(2);
        y.go(0, 0);
        c.due("a cost of -2 is one", y.cheapest(0, 0), -2);
    }

    private void price() {
        c.says(Check.TERMS, "WORTH of his top SLIP to ANOTHER one (wherever): that one's CHEAPEST HOMEWARD, less what it "
                + "would be with that SLIP on top of his.");
        c.says(29, "WORTH of his top SLIP to ANOTHER one.");
        TollsBack x = open();
        c.due("30 in place of 17", x.price(1, 0), 13);
        c.due("7 there and back", x.price(0, 1), 0);
        c.due("one at HOME goes there for 17, back for 30", x.price(1, 2), 13);
        c.due("one at HOME goes there for 17, back for 7 and 10", x.price(0, 2), 0);
        x.close(1, true);
        c.due("one at HOME goes there for 30, back for 30", x.price(1, 2), 0);
        c.due("a closed one", x.price(0, 1), 0);
        x.close(1, false);
        x.rest(2, 100);
        c.due("there for 3 on DAY 100, back for 30", x.price(1, 2), 27);
        x.rest(2, 1);
        c.due("late on DAY 101: back for 12", x.price(1, 2), 9);
        c.on(Realms::busy);
        c.stays("nothing stays", y -> y.price(1, 0), 60);
    }

    private void priceRefused() {
        c.says(29, "-1000000: one of both ways is none; -2: one of both, both one; -5: no SLIP; "
                + "-4: the other one has 40 (all as numbers alone).");
        c.on(() -> {
            TollsBack x = Realms.busy();
            x.close(2, true);
            return x;
        });
        c.stays("the other one has no way: price(0, 1)", x -> x.price(0, 1), NO_WAY);
        c.stays("the other one is at HOME: price(0, 2)", x -> x.price(0, 2), 0);
        c.stays("no SLIP is told first: price(2, 0)", x -> x.price(2, 0), -5);
        c.on(Realms::busy);
        c.stayAll("price(#, 0)", (x, i) -> x.price(i, 0), -2, -1, 0, 3, MIN, MAX);
        c.stayAll("price(0, #)", (x, o) -> x.price(0, o), -2, -1, 0, 3, MIN, MAX);
        c.stays("himself, without SLIPS", x -> x.price(2, 2), -2);
        c.stays("no SLIP", x -> x.price(2, 1), -5);
        c.on(() -> {
            TollsBack x = Realms.withForty();
            x.comes(9);
            return x;
        });
        c.stays("no SLIP, the other one has 40", x -> x.price(1, 0), -5);
        c.on(() -> {
            TollsBack x = Realms.withForty();
            x.comes(9);
            x.go(1, 1);
            return x;
        });
        c.stays("the other one has 40", x -> x.price(1, 0), -4);
        c.stays("the first has 40: there for nothing, back for 9", x -> x.price(0, 1), 9);
        TollsBack y = Realms.withForty();
        y.comes(9);
        y.go(1, 1);
        y.close(0, true);
        y.close(1, true);
        c.due("the other one has 40, and ways are closed", y.price(1, 0), -4);
        y.toss(0);
        c.due("he has 39", y.price(1, 0), 0);
        y.close(0, false);
        y.close(1, false);
        c.due("there for nothing, back for 9, and then for 0 and 9 and so on", y.price(1, 0), 9);
    }

    private void gain() {
        c.says(30, "By how much CHEAPEST HOMEWARD of the first (what 0), the second (1) would be less, if both changed "
                + "SLIPS (wherever they are).");
        TollsBack x = open();
        c.dueEach("-30 in place of -17: gain(0, 1, #)", what -> x.gain(0, 1, what), 13, -13);
        c.dueEach("the other way about: gain(1, 0, #)", what -> x.gain(1, 0, what), -13, 13);
        c.dueEach("17 in place of -17, nothing won at HOME: gain(0, 2, #)", what -> x.gain(0, 2, what), -34, 0);
        c.dueEach("17 in place of -30, -13 in place of 0: gain(1, 2, #)", what -> x.gain(1, 2, what), -47, 13);
        c.dueEach("no SLIPS at all: gain(2, 3, #)", what -> Realms.fullHouse().gain(2, 3, what), 0, 0);
        c.says(30, "-1000000: one of these ways is none; -2: one of both, both one, what.");
        c.on(() -> {
            TollsBack y = Realms.busy();
            y.close(2, true);
            return y;
        });
        c.stayAll("no way: gain(0, 1, #)", (y, what) -> y.gain(0, 1, what), NO_WAY, 0, 1);
        c.stays("no way of the first: gain(0, 2, 0)", y -> y.gain(0, 2, 0), NO_WAY);
        c.stays("no way of the second: gain(2, 0, 1)", y -> y.gain(2, 0, 1), NO_WAY);
        c.stayAll("gain(0, 1, #)", (y, what) -> y.gain(0, 1, what), -2, -1, 2, MIN, MAX);
        c.stayAll("gain(#, 1, 0)", (y, i) -> y.gain(i, 1, 0), -2, -1, 1, 3, MIN, MAX);
        c.stayAll("gain(0, #, 1)", (y, o) -> y.gain(0, o, 1), -2, -1, 0, 3, MIN, MAX);
        c.on(Realms::busy);
        c.stays("nothing stays", y -> y.gain(0, 1, 0), 60);
    }

    private void dueTour(String name, TollsBack x, int wanted, int n, int coins, int... roads) {
        c.due(name, x.through(0, wanted, n, 0), coins);
        c.due(name + ": GOINGS", x.through(0, wanted, n, 1), roads.length);
        for (int k = 0; k < 8; k++) {
            c.due(name + ": ROAD " + k, x.through(0, wanted, n, 10 + k), k < roads.length ? roads[k] : -1);
        }
    }

    private void dueNoTour(String name, TollsBack x, int wanted, int n) {
        c.due(name, x.through(0, wanted, n, 0), NO_WAY);
        c.due(name + ": GOINGS", x.through(0, wanted, n, 1), -1);
        for (int k = 0; k < 8; k++) {
            c.due(name + ": ROAD " + k, x.through(0, wanted, n, 10 + k), -1);
        }
    }

    private void throughBounds() {
        c.says(Check.TERMS, "CHEAPEST through wanted TOWNS in n ROADS (0 to 8): of all JOURNEYS of a TRAVELLER of n GOINGS at "
                + "most that can be (his PURSE is asked, days go by) that end at HOME, and stand in all wanted TOWNS some "
                + "time (where he begins counts)");
        c.says(31, "CHEAPEST through wanted TOWNS (bits) in n ROADS, what 0: how much his PURSE has more at its end "
                + "(below 0: less), 1: how many GOINGS, 10 + k: GOING k's ROAD.");
        c.says(31, "-1000000: there is none (what 0), NONE (what 1, 10 and more; also not so many);");
        TollsBack x = Check.realm(Realms.LINE);
        x.comes(10);
        dueTour("all eight", x, 16, 8, 0, 0, 1, 2, 3, 3, 2, 1, 0);
        dueTour("all TOWNS", x, 31, 8, 0, 0, 1, 2, 3, 3, 2, 1, 0);
        dueNoTour("seven are too few", x, 16, 7);
        dueTour("six", x, 8, 7, 0, 0, 1, 2, 2, 1, 0);
        dueTour("none", x, 0, 0, 0);
        dueTour("HOME", x, 1, 0, 0);
        dueNoTour("not without a GOING", x, 2, 0);
        TollsBack y = Check.realm(Realms.LINE);
        y.comes(9);
        dueNoTour("his PURSE is asked: 9 are too few", y, 16, 8);
        dueTour("6 are enough", y, 8, 8, 0, 0, 1, 2, 2, 1, 0);
        y.go(0, 0);
        dueTour("where he begins counts", y, 2, 1, 1, 0);
        dueNoTour("he isn't at HOME", y, 0, 0);
        TollsBack z = Check.realm("towns 2;road 0 to 1 toll 10 days 50;year 49;late 30;");
        z.comes(10);
        dueTour("days go by: late", z, 2, 8, -7, 0, 0);
        TollsBack w = Realms.withForty();
        w.comes(0);
        dueTour("forty SLIPS: eight can be had back, one isn't paid", w, 0, 8, 36, 1, 0, 1, 0, 1, 0, 1, 0);
    }

    private void throughBest() {
        c.says(Check.TERMS, "that by which his PURSE has most at its end; of like ones the fewest GOINGS; of like ones the "
                + "first by ROADS.");
        TollsBack x = open();
        dueTour("both had back", x, 0, 8, 17, 1, 0);
        dueTour("TOWN 1 in two", x, 2, 2, 17, 1, 0);
        dueTour("at HOME in one", x, 0, 1, -30, 2);
        TollsBack y = Check.realm("towns 2;road 0 to 1 toll 3 days 1;road 0 to 1 toll 3 days 1;road 0 to 1 toll 2 days 1;");
        y.comes(100);
        dueTour("like ones: the first by ROADS", y, 2, 8, 0, 0, 0);
        y.close(0, true);
        dueTour("the next by ROADS", y, 2, 2, 0, 1, 1);
        y.close(1, true);
        dueTour("the last", y, 2, 2, 0, 2, 2);
        TollsBack z = Check.realm("towns 3;road 0 to 1 toll 0 days 1;road 1 to 2 toll 0 days 1;road 0 to 2 toll 0 days 1;");
        z.comes(0);
        dueTour("the fewest GOINGS, though later by ROADS", z, 4, 8, 0, 2, 2);
        dueTour("round: the first by ROADS", z, 6, 8, 0, 0, 1, 2);
        for (int late = 0; late < 2; late++) {
            TollsBack w = Check.realm("towns 4;road 0 to 1 toll 10 summer 20 days 5;road 1 to 2 toll 7 days 3;"
                    + "road 0 to 3 toll 0 days 1;year 100;late 40;");
            w.comes(50);
            w.rest(0, 269);
            w.go(0, 0);
            w.rest(0, 89 + late);
            // Sets out for HOME on DAY 369, a year behind 269, or a day later.
            dueTour("there and back, and home by a SLIP that other rows would have used", w, 4, 3, late == 0 ? 20 : 8, 1, 1, 0);
        }
    }

    private void throughRefused() {
        c.says(31, "-2: the TRAVELLER, what (10 to 17); -3: the TOWNS, n; -4: FULL (all as numbers alone).");
        c.on(Realms::busy);
        c.stayAll("through(#, 0, 0, 0)", (x, i) -> x.through(i, 0, 0, 0), -2, -1, 3, MIN, MAX);
        c.stayAll("through(#, 8, 9, 0)", (x, i) -> x.through(i, 8, 9, 0), -2, -1, 3);
        c.stayAll("through(0, 0, 0, #)", (x, what) -> x.through(0, 0, 0, what), -2, -1, 2, 9, 18, MIN, MAX);
        c.stayAll("through(0, 8, 9, #)", (x, what) -> x.through(0, 8, 9, what), -2, -1, 2, 9, 18);
        c.stayAll("through(0, #, 0, 0)", (x, wanted) -> x.through(0, wanted, 0, 0), -3, -1, 8, 4096, MIN, MAX);
        c.stayAll("through(0, 0, #, 10)", (x, n) -> x.through(0, 0, n, 10), -3, -1, 9, MIN, MAX);
        c.stayAll("through(2, 7, 0, #)", (x, what) -> x.through(2, 7, 0, what), -1, 1, 10, 17);
        c.stays("through(2, 7, 0, 0)", x -> x.through(2, 7, 0, 0), NO_WAY);
        c.stays("nothing stays: through(1, 6, 8, 0)", x -> x.through(1, 6, 8, 0), 30);
        TollsBack y = Check.realm("towns 12;");
        y.comes(0);
        c.due("all twelve", y.through(0, 4095, 0, 0), NO_WAY);
        c.due("a thirteenth", y.through(0, 4096, 0, 0), -3);
    }

    private void throughFull() {
        c.says(Check.TERMS, "FULL: more than 100,000 GOINGS that can be are tried (JOURNEYS in the order of ROADS, each from "
                + "its beginning on).");
        TollsBack x = Check.realm(Realms.freeRoads(6, 30, 50, 50, 53, 3, 35, 52, 10, 1, 32, 24, 32));
        x.comes(0);
        c.due("just 100000 GOINGS", x.through(0, 0, 7, 1), 0);
        c.due("many more", x.through(0, 0, 8, 1), -4);
        c.due("just 100000 once more", x.through(0, 0, 7, 1), 0);
        c.on(() -> {
            TollsBack y = Check.realm(Realms.freeRoads(6, 13, 3, 21, 31, 30, 43, 40, 30, 20, 10, 3, 13, 31));
            y.comes(0);
            return y;
        });
        c.stayAll("100001 GOINGS: through(0, 0, 6, #)", (y, what) -> y.through(0, 0, 6, what), -4, 0, 1, 10, 17);
        c.stayAll("FULL without one so far: through(0, 32, 6, #)", (y, what) -> y.through(0, 32, 6, what), -4, 0, 1, 10, 17);
        c.stays("what is told first", y -> y.through(0, 0, 6, 18), -2);
        c.stays("TOWNS are told first", y -> y.through(0, 64, 6, 0), -3);
        // Ten ROADS between two TOWNS, one of them free: all rows that cost can't be gone.
        TollsBack z = Check.realm(Realms.manyRoads(1, "toll0days1") + Realms.manyRoads(9, "toll1days1").substring(7));
        z.comes(0);
        c.due("what can't be isn't counted", z.through(0, 2, 8, 1), 2);
        z.comes(8);
        c.due("what can be is", z.through(1, 2, 8, 1), -4);
    }
}

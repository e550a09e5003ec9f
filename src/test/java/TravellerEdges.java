import java.util.Arrays;

/** The edges that the document names of TRAVELLERS, SLIPS and GOING: promises 10 to 19. */
final class TravellerEdges {
    private static final int MIN = Realms.MIN;
    private static final int MAX = Realms.MAX;

    private final Check c;

    TravellerEdges(Check c) {
        this.c = c;
    }

    void all() {
        comes();
        comesRefused();
        of();
        slip();
        goPaid();
        goBack();
        worth();
        goRefused();
        goCodesInOrder();
        toss();
        rest();
        give();
        giveRefused();
        change();
        judge();
        judgeWhy();
        judgeRefused();
        perform();
    }

    private void comes() {
        c.says(Check.TERMS, "TRAVELLERS, at most 6, are numbered as they come: each has a TOWN (HOME at first), "
                + "a DAY (0 at first), a PURSE, SLIPS, the latest on top (at most 40).");
        c.says(10, "A TRAVELLER comes with a PURSE (0 to 1000000): his number.");
        TollsBack x = Check.realm("towns 12;home 11;road 11 to 0 toll 0 days 4;");
        for (int i = 0; i < 6; i++) {
            int purse = i == 0 ? 0 : i == 5 ? 1000000 : i;
            c.due("comes(" + purse + ")", x.comes(purse), i);
            int who = i;
            c.dueEach("of(" + i + ", #)", what -> x.of(who, what), 11, 0, purse, 0, 0, 0);
            c.due("TRAVELLERS", x.count(2), i + 1);
            x.go(i, 0);
        }
        x.comes(5);
        c.dueEach("the last stays as he was: of(5, #)", what -> x.of(5, what), 0, 4, 1000000, 1, 0, 0);
        TollsBack y = Check.realm(Realms.PAIR);
        y.comes(9);
        y.go(0, 0);
        y.go(0, 1);
        c.due("the first SLIP is the lowest", y.slip(0, 0, 0), 0);
        c.due("the latest is on top", y.slip(0, 1, 0), 1);
        c.due("forty at most", Realms.withForty().of(0, 3), 40);
    }

    private void comesRefused() {
        c.says(10, "-5: there are 6, or no TOWNS; -3: the PURSE.");
        c.on(Realms::busy);
        c.stayAll("comes(#)", TollsBack::comes, -3, -1, 1000001, MIN, MAX);
        c.on(Realms::fullHouse);
        c.stayAll("comes(#) as the seventh", TollsBack::comes, -5, 0, 1000000, -1, 1000001, MIN);
        c.on(Realms::noTowns);
        c.stayAll("comes(#) without TOWNS", TollsBack::comes, -5, 0, 1000000, -1, MAX);
        TollsBack x = Realms.fullHouse();
        c.due("six", x.count(2), 6);
        x.kingdom(0);
        Check.kingdom(x, "towns 2;");
        c.due("the first of another KINGDOM", x.comes(1), 0);
    }

    private void of() {
        c.says(11, "Of a TRAVELLER, what 0: his TOWN, 1: DAY, 2: PURSE, 3: how many SLIPS, "
                + "4: all he paid for ROADS, 5: all he had back.");
        TollsBack x = Realms.busy();
        c.dueEach("of(0, #)", what -> x.of(0, what), 2, 8, 83, 2, 17, 0);
        c.dueEach("of(1, #)", what -> x.of(1, what), 2, 1, 20, 1, 30, 0);
        c.dueEach("of(2, #)", what -> x.of(2, what), 0, 0, 0, 0, 0, 0);
        x.close(1, false);
        x.go(0, 1);
        x.go(0, 1);
        c.dueEach("7 back and 7 again: of(0, #)", what -> x.of(0, what), 2, 14, 83, 2, 24, 7);
        x.give(0, 1, 20);
        x.toss(1);
        c.dueEach("coins for a SLIP are not paid for ROADS: of(0, #)", what -> x.of(0, what), 2, 14, 103, 1, 24, 7);
        c.dueEach("nor had back: of(1, #)", what -> x.of(1, what), 2, 1, 0, 1, 30, 0);
        c.due("the sixth", Realms.fullHouse().of(5, 2), 3);
        c.says(11, "-2.");
        c.on(Realms::busy);
        c.stayAll("of(#, 0)", (y, i) -> y.of(i, 0), -2, -1, 3, 6, MIN, MAX);
        c.stayAll("of(0, #)", (y, what) -> y.of(0, what), -2, -1, 6, MIN, MAX);
        c.on(Realms::fullHouse);
        c.stayAll("of(#, 1)", (y, i) -> y.of(i, 1), -2, -1, 6, 7);
    }

    private void slip() {
        c.says(12, "Of SLIP k of a TRAVELLER (0 the lowest), what 0: the ROAD, 1: TOWN from, 2: to, 3: its DAY, "
                + "4: what was paid, 5: WORTH on his DAY.");
        TollsBack x = Realms.busy();
        c.dueEach("slip(0, 0, #)", what -> x.slip(0, 0, what), 0, 0, 1, 0, 10, 10);
        c.dueEach("slip(0, 1, #)", what -> x.slip(0, 1, what), 1, 1, 2, 5, 7, 7);
        c.dueEach("slip(1, 0, #)", what -> x.slip(1, 0, what), 2, 0, 2, 0, 30, 30);
        x.rest(0, 98);
        c.dueEach("late: slip(0, 1, #)", what -> x.slip(0, 1, what), 1, 1, 2, 5, 7, 2);
        TollsBack y = Realms.withForty();
        c.dueEach("slip(0, 39, #)", what -> y.slip(0, 39, what), 1, 1, 0, 58, 9, 9);
        c.says(12, "-2: the TRAVELLER, what; -7: he has no such SLIP.");
        c.on(Realms::busy);
        c.stayAll("slip(#, 0, 0)", (z, i) -> z.slip(i, 0, 0), -2, -1, 3, MIN, MAX);
        c.stayAll("slip(0, 0, #)", (z, what) -> z.slip(0, 0, what), -2, -1, 6, MIN, MAX);
        c.stayAll("slip(0, 2, #)", (z, what) -> z.slip(0, 2, what), -2, -1, 6);
        c.stayAll("slip(0, #, 0)", (z, k) -> z.slip(0, k, 0), -7, -1, 2, 39, 40, MIN, MAX);
        c.stayAll("slip(1, #, 5)", (z, k) -> z.slip(1, k, 5), -7, -1, 1);
        c.stayAll("slip(2, #, 1)", (z, k) -> z.slip(2, k, 1), -7, -1, 0);
        c.on(Realms::withForty);
        c.stayAll("slip(0, #, 2)", (z, k) -> z.slip(0, k, 2), -7, 40, 41);
        x.go(1, 2);
        c.due("one that is gone", x.slip(1, 0, 0), -7);
    }

    private static TollsBack on(String text, int purse, int day) {
        TollsBack x = Check.realm(text);
        x.comes(purse);
        x.rest(0, day);
        return x;
    }

    private void goPaid() {
        c.says(Check.TERMS, "Else he PAYS its toll (of the DAY on which he sets out): a SLIP comes on top: "
                + "the ROAD, TOWNS from and to, that DAY, what was paid.");
        int[] days = {0, 89, 90, 269, 270, 359, 360, 449, 450};
        for (int day : days) {
            boolean summer = day == 90 || day == 269 || day == 450;
            TollsBack x = on(Realms.ROUND, 100, day);
            c.due("go(0, 0) on " + day, x.go(0, 0), summer ? 20 : 10);
            c.dueEach("slip(0, 0, #)", what -> x.slip(0, 0, what), 0, 0, 1, day, summer ? 20 : 10, summer ? 20 : 10);
            c.dueEach("of(0, #)", what -> x.of(0, what), 1, day + 5, summer ? 80 : 90, 1, summer ? 20 : 10, 0);
        }
        TollsBack y = on(Realms.ROUND, 100, 269);
        c.due("from its second TOWN, in summer", y.go(0, 2), 3);
        c.dueEach("slip(0, 0, #)", what -> y.slip(0, 0, what), 2, 0, 2, 269, 3, 3);
        c.says(13, "He GOES by a ROAD: what he paid; 1000 and what he HAD BACK, if he had.");
        TollsBack z = Check.realm("towns 2;road 0 to 1 toll 0 days 1;road 0 to 1 toll 999 days 90;");
        z.comes(999);
        c.due("nothing paid", z.go(0, 0), 0);
        c.due("nothing had back", z.go(0, 0), 1000);
        c.due("most paid", z.go(0, 1), 999);
        c.due("most had back", z.go(0, 1), 1999);
        c.due("his DAY", z.of(0, 1), 182);
    }

    private void goBack() {
        c.says(Check.TERMS, "GOING by a ROAD from his TOWN (its days go by): if the top SLIP is of that ROAD and he "
                + "came by it to this TOWN, he HAS IT BACK: the SLIP is gone, its WORTH on the DAY on which he sets "
                + "out comes into his PURSE.");
        TollsBack x = Realms.busy();
        x.close(1, false);
        c.due("the top one", x.go(0, 1), 1007);
        c.dueEach("of(0, #)", what -> x.of(0, what), 1, 11, 90, 1, 17, 7);
        c.due("another ROAD than the top one's: he pays", x.go(0, 1), 7);
        c.due("round: he pays", x.go(0, 2), 30);
        c.due("the top one is of another ROAD, though one below is of this: he pays", x.go(0, 0), 10);
        TollsBack y = Check.realm(Realms.PAIR);
        y.comes(100);
        y.go(0, 0);
        y.go(0, 1);
        y.toss(0);
        c.due("the top one is of this ROAD, but leads from this TOWN: he pays", y.go(0, 0), 0);
        c.due("SLIPS", y.of(0, 3), 2);
        c.due("the later one is had back", y.go(0, 0), 1000);
        c.due("the earlier one leads from here still: he pays", y.go(0, 0), 0);
        TollsBack z = on(Realms.ROUND, 10, 0);
        z.go(0, 0);
        c.due("no coin", z.of(0, 2), 0);
        c.due("he pays nothing who has it back", z.go(0, 0), 1010);
    }

    private void worth() {
        c.says(Check.TERMS, "WORTH of a SLIP on a DAY: what was paid, if DAY less its DAY is not above year; "
                + "else late hundredths of it, cut.");
        int[][] lates = {{0, 999, 0}, {1, 99, 0}, {1, 100, 1}, {50, 7, 3}, {99, 999, 989}, {100, 999, 999}, {50, 0, 0}, {40, 2, 0}};
        for (int[] late : lates) {
            for (int year : new int[] {1, 360}) {
                String text = "towns 2;road 0 to 1 toll " + late[1] + " days 1;late " + late[0] + ";year " + year + ";";
                TollsBack x = on(text, 1000, 17);
                x.go(0, 0);
                x.rest(0, year - 1);
                c.due("a year: " + text, x.slip(0, 0, 5), late[1]);
                c.due("what it OWES", x.owes(17 + year), late[1]);
                x.image(0);
                c.due("had back", x.go(0, 0), 1000 + late[1]);
                x.restore(0);
                x.rest(0, 1);
                c.due("a day more: " + text, x.slip(0, 0, 5), late[2]);
                c.due("what it OWES", x.owes(18 + year), late[2]);
                c.due("ahead of its DAY", x.owes(0), late[1]);
                c.due("had back", x.go(0, 0), 1000 + late[2]);
                c.dueEach("of(0, #)", what -> x.of(0, what), 0, year + 19, 1000 - late[1] + late[2], 0, late[1], late[2]);
            }
        }
    }

    private void goRefused() {
        c.says(13, "-2: the TRAVELLER, ROAD; -4, -5, -8, -9 as told.");
        c.on(Realms::busy);
        c.stayAll("go(#, 0)", (x, i) -> x.go(i, 0), -2, -1, 3, 6, MIN, MAX);
        c.stayAll("go(0, #)", (x, r) -> x.go(0, r), -2, -1, 3, 24, MIN, MAX);
        c.stays("closed", x -> x.go(0, 1), -8);
        c.stays("closed, elsewhere", x -> x.go(2, 1), -8);
        c.stays("elsewhere", x -> x.go(0, 0), -9);
        c.stays("elsewhere, too dear", x -> x.go(1, 0), -9);
        c.stays("too dear", x -> x.go(2, 0), -5);
        c.stays("too dear by another ROAD", x -> x.go(2, 2), -5);
        c.on(Realms::withForty);
        c.stays("forty", x -> x.go(0, 0), -4);
        TollsBack y = Realms.withForty();
        c.due("the fortieth is had back", y.go(0, 1), 1009);
        c.due("a fortieth is paid", y.go(0, 1), 9);
        c.due("forty", y.of(0, 3), 40);
        c.due("no forty-first", y.go(0, 0), -4);
    }

    /** One with 40 SLIPS, so many coins and a ROAD that costs one more than these. */
    private static TollsBack poorAndFull(int coins, boolean closed) {
        TollsBack x = Check.realm("towns 3;road 0 to 1 toll 0 days 1;road 0 to 1 toll 0 days 1;"
                + "road 0 to 1 toll 6 days 1;road 1 to 2 toll 6 days 1;");
        x.comes(coins);
        for (int k = 0; k < 40; k++) {
            x.go(0, k % 2);
        }
        x.close(2, closed);
        x.close(3, closed);
        return x;
    }

    private void goCodesInOrder() {
        c.says(Check.TERMS, "It can't be: -8 the ROAD is closed; -9 it doesn't lead from his TOWN; -5 the PURSE has "
                + "less than the toll; -4 there are 40 SLIPS (if he would pay). (Of several that which is told first.)");
        c.on(() -> poorAndFull(5, true));
        c.stays("closed, poor, full", x -> x.go(0, 2), -8);
        c.stays("closed, elsewhere, poor, full", x -> x.go(0, 3), -8);
        c.on(() -> poorAndFull(5, false));
        c.stays("elsewhere, poor, full", x -> x.go(0, 3), -9);
        c.stays("poor, full", x -> x.go(0, 2), -5);
        c.stays("full", x -> x.go(0, 0), -4);
        c.on(() -> poorAndFull(6, false));
        c.stays("just enough, full", x -> x.go(0, 2), -4);
        c.due("full, but he has it back", poorAndFull(0, false).go(0, 1), 1000);
        TollsBack y = poorAndFull(6, false);
        y.toss(0);
        c.due("thirty-nine and just enough", y.go(0, 2), 6);
        c.due("then forty", y.of(0, 3), 40);
        TollsBack z = poorAndFull(5, false);
        z.toss(0);
        c.due("thirty-nine and too little", z.go(0, 2), -5);
        TollsBack w = poorAndFull(0, false);
        w.close(1, true);
        c.due("the top one's own ROAD, closed", w.go(0, 1), -8);
    }

    private void toss() {
        c.says(Check.TERMS, "TOSSED: the top SLIP is gone.");
        c.says(14, "TOSSED: what was paid for it. -2; -5: no SLIP.");
        TollsBack x = Realms.busy();
        x.rest(0, 500);
        c.due("the top one, late and closed", x.toss(0), 7);
        c.dueEach("of(0, #)", what -> x.of(0, what), 2, 508, 83, 1, 17, 0);
        c.due("the one below it is on top", x.slip(0, 0, 0), 0);
        c.due("the last", x.toss(0), 10);
        c.due("none is left", x.toss(0), -5);
        c.due("THE TREASURY keeps all", x.treasury(0), 47);
        c.due("SLIPS of all", x.treasury(1), 1);
        TollsBack y = Realms.withForty();
        c.due("the fortieth", y.toss(0), 9);
        c.due("a free one", y.toss(0), 0);
        c.on(Realms::busy);
        c.stayAll("toss(#)", TollsBack::toss, -2, -1, 3, 6, MIN, MAX);
        c.stays("toss(2)", z -> z.toss(2), -5);
    }

    private static TollsBack lateInTime() {
        TollsBack x = Realms.busy();
        for (int k = 0; k < 10; k++) {
            x.rest(0, 9999);
        }
        return x;
    }

    private void rest() {
        c.says(15, "So many days go by for him (0 to 9999): his DAY then. -2; -3; -5: it would be above 99999.");
        TollsBack x = Realms.busy();
        c.due("none", x.rest(0, 0), 8);
        c.due("most", x.rest(0, 9999), 10007);
        c.due("the other one's DAY", x.of(1, 1), 1);
        TollsBack y = lateInTime();
        c.due("DAY", y.of(0, 1), 99998);
        c.due("up to 99999", y.rest(0, 1), 99999);
        c.due("none", y.rest(0, 0), 99999);
        c.due("one more", y.rest(0, 1), -5);
        c.on(Realms::busy);
        c.stayAll("rest(#, 0)", (z, i) -> z.rest(i, 0), -2, -1, 3, MIN, MAX);
        c.stayAll("rest(#, -1)", (z, i) -> z.rest(i, -1), -2, -1, 3);
        c.stayAll("rest(0, #)", (z, days) -> z.rest(0, days), -3, -1, 10000, 99999, MIN, MAX);
        c.on(TravellerEdges::lateInTime);
        c.stayAll("rest(0, #)", (z, days) -> z.rest(0, days), -5, 2, 9999);
        c.stayAll("rest(0, #)", (z, days) -> z.rest(0, days), -3, -1, 10000, MAX);
        c.on(() -> {
            TollsBack z = lateInTime();
            z.rest(0, 1);
            z.go(0, 2);
            return z;
        });
        c.stayAll("beyond 99999: rest(0, #)", (z, days) -> z.rest(0, days), -5, 0, 1);
        c.stays("who goes goes on", z -> z.of(0, 1), 100000);
    }

    private void give() {
        c.says(Check.TERMS, "GIVEN: it comes on top of another one's in the same TOWN, for so many coins of that one's PURSE.");
        c.says(16, "GIVEN to another one for coins: how many SLIPS that one has then.");
        for (int coins : new int[] {0, 1, 19, 20}) {
            TollsBack x = Realms.busy();
            c.due("give(0, 1, " + coins + ")", x.give(0, 1, coins), 2);
            c.dueEach("of(0, #)", what -> x.of(0, what), 2, 8, 83 + coins, 1, 17, 0);
            c.dueEach("of(1, #)", what -> x.of(1, what), 2, 1, 20 - coins, 2, 30, 0);
            c.dueEach("as it was: slip(1, 1, #)", what -> x.slip(1, 1, what), 1, 1, 2, 5, 7, 7);
            c.due("the one below it", x.slip(1, 0, 0), 2);
            c.due("the one that was below it", x.slip(0, 0, 0), 0);
            c.due("THE TREASURY", x.treasury(0), 47);
            c.due("THE LEDGER", x.ledger(0, 719), 47);
        }
        TollsBack y = Realms.busy();
        c.due("his only one", y.give(1, 0, 83), 3);
        c.due("he has none", y.of(1, 3), 0);
        c.due("the giver's PURSE", y.of(1, 2), 103);
        c.due("he who didn't pay for it has it back", y.go(0, 2), 1030);
    }

    /** The first has 39 SLIPS, the second 40, both in TOWN 0; the second has 9 coins. */
    private static TollsBack nearlyFull() {
        TollsBack x = Check.realm(Realms.PAIR);
        x.comes(1000);
        x.comes(189);
        for (int k = 0; k < 40; k++) {
            x.go(0, k % 2);
            x.go(1, k % 2);
        }
        x.toss(0);
        return x;
    }

    private void giveRefused() {
        c.says(16, "-2: one of both, both one; -5: unlike TOWNS, no SLIP; "
                + "-3: coins below 0, or more than the other one's PURSE has; -4: the other one has 40.");
        c.on(Realms::busy);
        c.stayAll("give(#, 1, 0)", (x, i) -> x.give(i, 1, 0), -2, -1, 1, 3, MIN, MAX);
        c.stayAll("give(0, #, 0)", (x, o) -> x.give(0, o, 0), -2, -1, 0, 3, MIN, MAX);
        c.stays("give(3, 3, -1)", x -> x.give(3, 3, -1), -2);
        c.stays("unlike TOWNS", x -> x.give(0, 2, 0), -5);
        c.stays("unlike TOWNS, coins", x -> x.give(0, 2, -1), -5);
        c.stays("unlike TOWNS, no SLIP, coins", x -> x.give(2, 0, 100), -5);
        c.stayAll("give(0, 1, #)", (x, coins) -> x.give(0, 1, coins), -3, -1, 21, MIN, MAX);
        c.on(() -> {
            TollsBack x = Realms.fullHouse();
            x.go(0, 2);
            return x;
        });
        c.stays("no SLIP", x -> x.give(3, 2, 0), -5);
        c.stays("no SLIP, coins", x -> x.give(3, 2, 5), -5);
        c.on(TravellerEdges::nearlyFull);
        c.stays("give(0, 1, 9) to one who has 40", x -> x.give(0, 1, 9), -4);
        c.stays("give(0, 1, 0) to one who has 40", x -> x.give(0, 1, 0), -4);
        c.stays("coins are told first", x -> x.give(0, 1, 10), -3);
        c.stays("coins below 0 are told first", x -> x.give(0, 1, -1), -3);
        TollsBack y = nearlyFull();
        c.due("the fortieth", y.give(1, 0, 0), 40);
        c.due("who has 39 then", y.of(1, 3), 39);
        c.due("and takes a fortieth", y.give(0, 1, 9), 40);
    }

    private void change() {
        c.says(Check.TERMS, "CHANGED: two in one TOWN change all SLIPS.");
        c.says(17, "CHANGED: how many SLIPS the first has then.");
        TollsBack x = Realms.busy();
        c.due("two for one", x.change(0, 1), 1);
        c.dueEach("slip(0, 0, #)", what -> x.slip(0, 0, what), 2, 0, 2, 0, 30, 30);
        c.dueEach("slip(1, 0, #)", what -> x.slip(1, 0, what), 0, 0, 1, 0, 10, 10);
        c.dueEach("slip(1, 1, #)", what -> x.slip(1, 1, what), 1, 1, 2, 5, 7, 7);
        c.dueEach("all else stays: of(0, #)", what -> x.of(0, what), 2, 8, 83, 1, 17, 0);
        c.dueEach("all else stays: of(1, #)", what -> x.of(1, what), 2, 1, 20, 2, 30, 0);
        c.due("one for two", x.change(0, 1), 2);
        x.toss(1);
        c.due("two for none", x.change(1, 0), 2);
        c.due("none", x.of(0, 3), 0);
        c.due("none for two", x.change(1, 0), 0);
        TollsBack y = nearlyFull();
        c.due("39 for 40", y.change(0, 1), 40);
        c.due("the fortieth", y.slip(0, 39, 4), 9);
        c.due("39", y.of(1, 3), 39);
        TollsBack z = Realms.fullHouse();
        c.due("none for none", z.change(2, 5), 0);
        c.says(17, "-2: one of both, both one; -5: unlike TOWNS.");
        c.on(Realms::busy);
        c.stayAll("change(#, 1)", (w, i) -> w.change(i, 1), -2, -1, 1, 3, MIN, MAX);
        c.stayAll("change(0, #)", (w, o) -> w.change(0, o), -2, -1, 0, 3, MIN, MAX);
        c.stays("change(0, 2)", w -> w.change(0, 2), -5);
        c.stays("change(2, 1)", w -> w.change(2, 1), -5);
    }

    private void dueJudged(TollsBack x, int i, long[] roads, long... want) {
        Check.row(x, 3, roads);
        c.dueEach("judge(" + i + ", " + Arrays.toString(roads) + ", #)", what -> x.judge(i, 3, what), want);
    }

    private static long[] roads(long... numbers) {
        return numbers;
    }

    private void judge() {
        c.says(Check.TERMS, "A ROW of ROADS is JUDGED for a TRAVELLER, as if he went by them one behind the other "
                + "(a number that is no ROAD: -2); nothing stays.");
        c.says(18, "JUDGED, what 0: the first place that can't be (NONE), 1: why (0), 2: paid, 3: had back (both by "
                + "GOINGS ahead of it), 4: SLIPS then, 5: his TOWN then, 6: his DAY then.");
        TollsBack x = Realms.busy();
        x.close(1, false);
        dueJudged(x, 0, roads(), -1, 0, 0, 0, 2, 2, 8);
        dueJudged(x, 0, roads(1, 0), -1, 0, 0, 17, 0, 0, 16);
        dueJudged(x, 0, roads(1, 0, 0, 0, 2), -1, 0, 40, 27, 1, 2, 27);
        dueJudged(x, 0, roads(1, 0, 1, 0), 2, -9, 0, 17, 0, 0, 16);
        dueJudged(x, 0, roads(1, 1), -1, 0, 7, 7, 2, 2, 14);
        dueJudged(x, 0, roads(0, 1), 0, -9, 0, 0, 2, 2, 8);
        dueJudged(x, 0, roads(2, 1, 99), 1, -9, 30, 0, 3, 0, 9);
        x.close(0, true);
        dueJudged(x, 0, roads(32), 0, -2, 0, 0, 2, 2, 8);
        x.close(0, false);
        for (long none : roads(-1, 3, 24, 128, 1L << 32, Long.MAX_VALUE, Long.MIN_VALUE)) {
            dueJudged(x, 0, roads(1, none, 0), 1, -2, 0, 7, 1, 1, 11);
        }
        x.go(0, 1);
        x.rest(0, 95);
        dueJudged(x, 0, roads(0, 0), -1, 0, 20, 4, 1, 1, 116);
        x.go(0, 1);
        dueJudged(x, 0, roads(1, 0, 0), -1, 0, 20, 11, 1, 1, 122);
        TollsBack y = Realms.withForty();
        dueJudged(y, 0, Check.byTurns(40, 1, 0), -1, 0, 0, 180, 0, 0, 120);
        TollsBack z = Check.realm(Realms.PAIR);
        z.comes(180);
        dueJudged(z, 0, Check.byTurns(40, 0, 1), -1, 0, 180, 0, 40, 0, 60);
        c.on(() -> {
            TollsBack w = Realms.busy();
            w.close(1, false);
            Check.row(w, 3, 1, 0, 0, 0, 2);
            return w;
        });
        c.stays("nothing stays", w -> w.judge(0, 3, 2), 40);
        c.stays("nothing stays of one who can't", w -> w.judge(2, 3, 0), 0);
    }

    private void judgeWhy() {
        TollsBack x = Realms.busy();
        dueJudged(x, 0, roads(1), 0, -8, 0, 0, 2, 2, 8);
        dueJudged(x, 0, roads(2, 0, 1), 2, -8, 40, 0, 4, 1, 14);
        dueJudged(x, 1, roads(2, 0, 0, 2, 0), 4, -9, 40, 40, 1, 2, 13);
        TollsBack y = Check.realm(Realms.ROUND);
        y.comes(47);
        dueJudged(y, 0, roads(0, 1, 2), -1, 0, 47, 0, 3, 0, 9);
        dueJudged(y, 0, roads(0, 1, 2, 0), 3, -5, 47, 0, 3, 0, 9);
        y.go(0, 2);
        y.toss(0);
        dueJudged(y, 0, roads(1, 0), -1, 0, 17, 0, 2, 0, 9);
        dueJudged(y, 0, roads(1, 0, 2), 2, -5, 17, 0, 2, 0, 9);
        dueJudged(y, 0, roads(1, 0, 0, 0, 2), 4, -5, 27, 10, 2, 0, 19);
        TollsBack w = Check.realm(Realms.PAIR);
        w.comes(0);
        dueJudged(w, 0, roads(0, 0, 0, 1), 3, -5, 0, 0, 1, 1, 3);
        TollsBack z = Realms.withForty();
        dueJudged(z, 0, roads(1, 1, 0), 2, -4, 9, 9, 40, 0, 64);
        dueJudged(z, 0, roads(0), 0, -4, 0, 0, 40, 0, 60);
    }

    private void judgeRefused() {
        c.says(18, "-2: the TRAVELLER, ROW, what; -6.");
        c.on(Realms::busy);
        c.stayAll("judge(#, 0, 0)", (x, i) -> x.judge(i, 0, 0), -2, -1, 3, MIN, MAX);
        c.stayAll("judge(0, #, 0)", (x, row) -> x.judge(0, row, 0), -2, -1, 4, MIN, MAX);
        c.stayAll("judge(0, 0, #)", (x, what) -> x.judge(0, 0, what), -2, -1, 7, MIN, MAX);
        c.stayAll("judge(0, 3, #)", (x, what) -> x.judge(0, 3, what), -6, 0, 6);
        c.stays("judge(3, 3, 0)", x -> x.judge(3, 3, 0), -2);
        c.stays("judge(0, 3, 7)", x -> x.judge(0, 3, 7), -2);
    }

    private void perform() {
        c.says(19, "He goes by a ROW of ROADS till one can't be: how many he went.");
        TollsBack x = Realms.busy();
        Check.row(x, 3, 2, 0, 1, 2);
        c.due("closed", x.perform(0, 3), 2);
        c.dueEach("of(0, #)", what -> x.of(0, what), 1, 14, 43, 4, 57, 0);
        c.due("THE TREASURY", x.treasury(0), 87);
        c.due("THE LEDGER", x.ledger(9, 9), 10);
        Check.row(x, 3, 0, 2, 99, 1);
        c.due("no ROAD", x.perform(0, 3), 2);
        c.dueEach("of(0, #)", what -> x.of(0, what), 2, 20, 83, 2, 57, 40);
        Check.row(x, 3);
        c.due("none", x.perform(0, 3), 0);
        TollsBack y = Check.realm(Realms.PAIR);
        y.comes(179);
        Check.row(y, 3, Check.byTurns(40, 0, 1));
        c.due("the last is too dear", y.perform(0, 3), 39);
        c.due("coins", y.of(0, 2), 8);
        TollsBack z = Realms.withForty();
        Check.row(z, 3, Check.byTurns(40, 1, 0));
        c.due("all forty", z.perform(0, 3), 40);
        c.due("all back", z.of(0, 2), 189);
        c.says(19, "-2: the TRAVELLER, ROW; -6.");
        c.on(Realms::busy);
        c.stayAll("perform(#, 0)", (w, i) -> w.perform(i, 0), -2, -1, 3, MIN, MAX);
        c.stayAll("perform(0, #)", (w, row) -> w.perform(0, row), -2, -1, 4, MIN, MAX);
        c.stays("perform(0, 3)", w -> w.perform(0, 3), -6);
        c.stays("perform(3, 3)", w -> w.perform(3, 3), -2);
        c.stays("the first can't be", w -> w.perform(0, 0), 0);
        c.stays("a ROW without numbers", w -> w.perform(0, 2), 0);
    }
}

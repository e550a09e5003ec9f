/** The edges that the document names of THE TREASURY: promises 20 to 23. */
final class TreasuryEdges {
    private static final int MIN = Realms.MIN;
    private static final int MAX = Realms.MAX;

    private final Check c;

    TreasuryEdges(Check c) {
        this.c = c;
    }

    void all() {
        treasury();
        late();
        owes();
        lapse();
        blocked();
    }

    private void treasury() {
        c.says(Check.TERMS, "THE TREASURY has all that was paid less all that was had back;");
        c.says(20, "THE TREASURY, what 0: what it has, 1: SLIPS of all together,");
        TollsBack x = Realms.busy();
        x.close(1, false);
        c.dueEach("treasury(#)", x::treasury, 47, 3, 0);
        x.give(0, 1, 20);
        c.dueEach("GIVEN: treasury(#)", x::treasury, 47, 3, 0);
        x.change(0, 1);
        c.dueEach("CHANGED: treasury(#)", x::treasury, 47, 3, 0);
        x.toss(1);
        c.dueEach("TOSSED: treasury(#)", x::treasury, 47, 2, 0);
        c.due("had back", x.go(0, 1), 1007);
        c.dueEach("had back: treasury(#)", x::treasury, 40, 1, 0);
        x.go(0, 0);
        c.dueEach("paid: treasury(#)", x::treasury, 50, 2, 0);
        x.go(0, 1);
        c.dueEach("refused: treasury(#)", x::treasury, 50, 2, 0);
        TollsBack y = Realms.withForty();
        c.dueEach("forty: treasury(#)", y::treasury, 180, 40, 0);
        y.comes(0);
        y.go(1, 0);
        c.dueEach("forty and a free one: treasury(#)", y::treasury, 180, 41, 0);
        c.dueEach("none of a new KINGDOM: treasury(#)", Realms.noTowns()::treasury, 0, 0, 0);
        c.says(20, "NONE for others.");
        c.on(Realms::busy);
        c.stayAll("treasury(#)", TollsBack::treasury, -1, -1, 3, MIN, MAX);
        c.stays("treasury(0)", z -> z.treasury(0), 47);
    }

    private void late() {
        c.says(20, "2: those that are late, each on its holder's DAY.");
        TollsBack x = Realms.busy();
        x.rest(0, 92);
        c.due("the first one's DAY is 100: a year behind 0", x.treasury(2), 0);
        x.rest(0, 1);
        c.due("101", x.treasury(2), 1);
        x.rest(0, 4);
        c.due("105: a year behind 5", x.treasury(2), 1);
        x.rest(0, 1);
        c.due("106", x.treasury(2), 2);
        x.rest(1, 99);
        c.due("the second one's DAY is 100", x.treasury(2), 2);
        x.rest(1, 1);
        c.due("101", x.treasury(2), 3);
        TollsBack y = Realms.busy();
        y.rest(0, 500);
        c.due("two", y.treasury(2), 2);
        y.give(0, 1, 0);
        c.due("GIVEN to one on an early DAY", y.treasury(2), 1);
        y.change(0, 1);
        c.due("CHANGED with one on an early DAY", y.treasury(2), 2);
        TollsBack z = Check.realm("towns 2;road 0 to 1 toll 0 days 2;late 100;year 1;");
        z.comes(0);
        z.go(0, 0);
        c.due("a free one, of which all is had back, is late, too", z.treasury(2), 1);
    }

    private void owes() {
        c.says(Check.TERMS, "it OWES on a DAY the WORTH of all SLIPS of all on that DAY together.");
        c.says(21, "What it OWES on a DAY. -3: below 0.");
        TollsBack x = Realms.busy();
        int[] due = {0, 47, 5, 47, 100, 47, 101, 7 + 4 + 12, 105, 7 + 4 + 12, 106, 2 + 4 + 12, MAX, 18};
        for (int i = 0; i < due.length; i += 2) {
            c.due("owes(" + due[i] + ")", x.owes(due[i]), due[i + 1]);
        }
        x.rest(0, 500);
        x.rest(1, 500);
        c.due("whatever DAY it is for them", x.owes(100), 47);
        c.due("of none", new TollsBack().owes(0), 0);
        TollsBack y = Check.realm("towns 2;road 0 to 1 toll 999 days 1;road 0 to 1 toll 999 days 1;");
        for (int i = 0; i < 6; i++) {
            y.comes(1000000);
            Check.row(y, 0, Check.byTurns(40, 0, 1));
            c.due("forty", y.perform(i, 0), 40);
        }
        c.due("all of all", y.owes(0), 240 * 999);
        c.due("half of each", y.owes(MAX), 240 * 499);
        c.due("THE TREASURY", y.treasury(0), 240 * 999);
        c.on(Realms::busy);
        c.stayAll("owes(#)", TollsBack::owes, -3, -1, -360, MIN);
        c.stays("owes(0)", z -> z.owes(0), 47);
    }

    private void lapse() {
        c.says(22, "The first DAY on which some SLIP is late. NONE: there is no SLIP.");
        TollsBack x = Realms.busy();
        c.due("of DAY 0", x.lapse(), 101);
        x.toss(1);
        c.due("one of DAY 0 is left", x.lapse(), 101);
        x.change(0, 1);
        x.go(1, 2);
        x.rest(1, 500);
        c.due("past or not", x.lapse(), 101);
        c.due("none is late the day ahead", x.owes(100) - x.owes(0), 0);
        c.holds("one is late on it", x.owes(101) < x.owes(100));
        TollsBack y = Realms.busy();
        y.toss(1);
        y.change(0, 1);
        y.toss(1);
        y.toss(1);
        c.due("no SLIP", y.lapse(), -1);
        y.rest(0, 9);
        y.go(0, 2);
        c.due("of DAY 17", y.lapse(), 118);
        TollsBack z = Check.realm("towns 2;road 0 to 1 toll 0 days 90;year 1;");
        c.due("no TRAVELLER", z.lapse(), -1);
        z.comes(0);
        c.due("none has one", z.lapse(), -1);
        z.go(0, 0);
        c.due("a year of one day", z.lapse(), 2);
        TollsBack w = Check.realm("towns 2;road 0 to 1 toll 0 days 90;");
        w.comes(0);
        w.go(0, 0);
        c.due("a year of 360", w.lapse(), 361);
        c.on(Realms::noTowns);
        c.stays("lapse()", TollsBack::lapse, -1);
    }

    private void blocked() {
        c.says(Check.TERMS, "All of a TRAVELLER's SLIPS are BLOCKED from the bottom up to the highest one whose ROAD is closed.");
        c.says(23, "How many SLIPS are BLOCKED. -2.");
        TollsBack x = Realms.busy();
        c.due("the top one's is closed", x.blocked(0), 2);
        c.due("his isn't", x.blocked(1), 0);
        c.due("he has none", x.blocked(2), 0);
        x.close(0, true);
        c.due("both are closed", x.blocked(0), 2);
        x.close(1, false);
        c.due("the lowest one's is closed", x.blocked(0), 1);
        x.close(0, false);
        c.due("none is closed", x.blocked(0), 0);
        x.close(2, true);
        c.due("his only one's is closed", x.blocked(1), 1);
        TollsBack y = Realms.withForty();
        c.due("none of forty", y.blocked(0), 0);
        y.close(0, true);
        c.due("the second from above", y.blocked(0), 39);
        y.close(1, true);
        c.due("all forty", y.blocked(0), 40);
        c.on(Realms::busy);
        c.stayAll("blocked(#)", TollsBack::blocked, -2, -1, 3, MIN, MAX);
        c.stays("blocked(0)", z -> z.blocked(0), 2);
    }
}

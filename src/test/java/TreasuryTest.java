/** Promises 20 to 23: what THE TREASURY has and OWES, late SLIPS, BLOCKED ones. */
public final class TreasuryTest {
    private static final String REALM = "towns 3;road 0 to 1 toll 10 days 5;road 1 to 2 toll 7 days 3;"
            + "road 2 to 0 toll 31 days 1;year 20;late 50;";

    private static final Check C = new Check("TreasuryTest");

    public static void main(String[] args) {
        treasury();
        owes();
        lapse();
        blocked();
        C.end();
    }

    private static TollsBack twoOnTheirWay() {
        TollsBack x = Check.realm(REALM);
        x.comes(100);
        x.comes(100);
        x.go(0, 0);
        x.go(0, 1);
        x.rest(1, 10);
        x.go(1, 2);
        return x;
    }

    private static void treasury() {
        TollsBack x = twoOnTheirWay();
        C.due("it has", x.treasury(0), 48);
        C.due("SLIPS", x.treasury(1), 3);
        C.due("late", x.treasury(2), 0);
        x.rest(0, 13);
        C.due("the first one's DAY", x.of(0, 1), 21);
        C.due("one is late on its holder's DAY", x.treasury(2), 1);
        x.rest(1, 20);
        C.due("the second one's DAY is 31", x.treasury(2), 2);
        x.go(0, 1);
        C.due("less what was had back", x.treasury(0), 41);
        x.go(0, 0);
        C.due("half of it when it is late", x.treasury(0), 36);
        C.due("SLIPS then", x.treasury(1), 1);
        C.due("treasury(3)", x.treasury(3), -1);
        C.due("treasury(-1)", x.treasury(-1), -1);
    }

    private static void owes() {
        TollsBack x = twoOnTheirWay();
        C.due("on DAY 0", x.owes(0), 48);
        C.due("on DAY 20", x.owes(20), 48);
        C.due("on DAY 21", x.owes(21), 43);
        C.due("on DAY 25", x.owes(25), 43);
        C.due("on DAY 26: 5 and 3 and 31", x.owes(26), 39);
        C.due("on DAY 30", x.owes(30), 39);
        C.due("on DAY 31: 5 and 3 and 15", x.owes(31), 23);
        C.due("on the last DAY", x.owes(Integer.MAX_VALUE), 23);
        C.due("below 0", x.owes(-1), -3);
        x.toss(1);
        C.due("what is tossed is not owed", x.owes(0), 17);
        C.due("closed or not", x.close(0, true) + x.owes(0), 17);
    }

    private static void lapse() {
        TollsBack x = Check.realm(REALM);
        C.due("no TRAVELLER", x.lapse(), -1);
        x.comes(100);
        x.comes(100);
        C.due("no SLIP", x.lapse(), -1);
        x.rest(1, 7);
        x.go(1, 0);
        C.due("7 and a year and a day", x.lapse(), 28);
        x.go(0, 2);
        C.due("the first of all", x.lapse(), 21);
        x.toss(0);
        C.due("the other one's", x.lapse(), 28);
        x.rest(1, 900);
        C.due("past or not", x.lapse(), 28);
    }

    private static void blocked() {
        TollsBack x = Check.realm(REALM);
        x.comes(100);
        C.due("no SLIP", x.blocked(0), 0);
        x.go(0, 0);
        x.go(0, 1);
        x.go(0, 2);
        C.due("all open", x.blocked(0), 0);
        x.close(1, true);
        C.due("up to the highest", x.blocked(0), 2);
        x.close(0, true);
        C.due("another one below it", x.blocked(0), 2);
        x.close(1, false);
        C.due("the lowest alone", x.blocked(0), 1);
        x.close(2, true);
        C.due("the top one", x.blocked(0), 3);
        C.due("blocked(1)", x.blocked(1), -2);
        C.due("blocked(-1)", x.blocked(-1), -2);
    }
}

/** Promises 10 to 19: TRAVELLERS, their SLIPS, GOING, ROWS of ROADS judged and gone. */
public final class TravellersTest {
    private static final String REALM = "towns 3;road 0 to 1 toll 10 summer 20 days 5;"
            + "road 1 to 2 toll 7 days 3;road 2 to 0 toll 30 days 1;year 100;late 45;";

    private static final Check C = new Check("TravellersTest");

    public static void main(String[] args) {
        comes();
        of();
        slip();
        go();
        goBack();
        goCodes();
        fortySlips();
        toss();
        rest();
        give();
        givenSlipIsHadBack();
        giveToAFullOne();
        change();
        judge();
        perform();
        C.end();
    }

    private static void due(TollsBack x, int i, int town, int day, int purse, int slips, int paid, int back) {
        int[] want = {town, day, purse, slips, paid, back};
        for (int what = 0; what < 6; what++) {
            C.due("of(" + i + ", " + what + ")", x.of(i, what), want[what]);
        }
    }

    private static void dueSlip(TollsBack x, int i, int k, int... want) {
        for (int what = 0; what < 6; what++) {
            C.due("slip(" + i + ", " + k + ", " + what + ")", x.slip(i, k, what), want[what]);
        }
    }

    private static void comes() {
        TollsBack x = Check.realm("towns 2;home 1;");
        C.due("comes(-1)", x.comes(-1), -3);
        C.due("comes(1000001)", x.comes(1000001), -3);
        for (int i = 0; i < 6; i++) {
            C.due("comes", x.comes(i == 0 ? 0 : 1000000), i);
        }
        C.due("a seventh", x.comes(5), -5);
        C.due("a seventh with no such PURSE", x.comes(-1), -5);
        C.due("count(2)", x.count(2), 6);
        due(x, 0, 1, 0, 0, 0, 0, 0);
        due(x, 5, 1, 0, 1000000, 0, 0, 0);
        C.due("no TOWNS", Check.realm("year 5;").comes(-1), -5);
    }

    private static void of() {
        TollsBack x = Check.realm(REALM);
        x.comes(50);
        x.go(0, 0);
        x.go(0, 1);
        x.go(0, 1);
        due(x, 0, 1, 11, 40, 1, 17, 7);
        C.due("of(0, 6)", x.of(0, 6), -2);
        C.due("of(0, -1)", x.of(0, -1), -2);
        C.due("of(1, 0)", x.of(1, 0), -2);
        C.due("of(-1, 0)", x.of(-1, 0), -2);
    }

    private static void slip() {
        TollsBack x = Check.realm(REALM);
        x.comes(100);
        x.rest(0, 90);
        x.go(0, 2);
        x.go(0, 1);
        x.go(0, 0);
        dueSlip(x, 0, 0, 2, 0, 2, 90, 30, 30);
        dueSlip(x, 0, 1, 1, 2, 1, 91, 7, 7);
        dueSlip(x, 0, 2, 0, 1, 0, 94, 20, 20);
        x.rest(0, 91);
        C.due("day", x.of(0, 1), 190);
        C.due("a year old: all", x.slip(0, 0, 5), 30);
        x.rest(0, 1);
        C.due("a day more: 45 hundredths, cut", x.slip(0, 0, 5), 13);
        C.due("the one above is not yet", x.slip(0, 1, 5), 7);
        x.rest(0, 1);
        C.due("now it is", x.slip(0, 1, 5), 3);
        C.due("what was paid stays", x.slip(0, 1, 4), 7);
        C.due("slip(0, 3, 0)", x.slip(0, 3, 0), -7);
        C.due("slip(0, -1, 0)", x.slip(0, -1, 0), -7);
        C.due("slip(0, 3, 6)", x.slip(0, 3, 6), -2);
        C.due("slip(0, 0, -1)", x.slip(0, 0, -1), -2);
        C.due("slip(1, 0, 0)", x.slip(1, 0, 0), -2);
    }

    private static void go() {
        TollsBack x = Check.realm(REALM);
        x.comes(100);
        x.rest(0, 86);
        C.due("the toll of the DAY on which he sets out", x.go(0, 0), 10);
        due(x, 0, 1, 91, 90, 1, 10, 0);
        C.due("not the same ROAD: he pays", x.go(0, 1), 7);
        C.due("round to HOME", x.go(0, 2), 30);
        due(x, 0, 0, 95, 53, 3, 47, 0);
        C.due("top SLIP is of another ROAD: he pays", x.go(0, 0), 20);
        C.due("back", x.go(0, 0), 1020);
        C.due("back by the top one", x.go(0, 2), 1030);
        C.due("and by the next", x.go(0, 1), 1007);
        C.due("and by the last", x.go(0, 0), 1010);
        due(x, 0, 0, 114, 100, 0, 67, 67);
        C.due("THE TREASURY", x.treasury(0), 0);
    }

    private static void goBack() {
        TollsBack x = Check.realm(REALM);
        x.comes(100);
        x.go(0, 0);
        x.rest(0, 95);
        C.due("on the last day of the year", x.of(0, 1), 100);
        x.image(0);
        C.due("all", x.go(0, 0), 1010);
        x.restore(0);
        x.rest(0, 1);
        C.due("late: 45 hundredths", x.go(0, 0), 1004);
        due(x, 0, 0, 106, 94, 0, 10, 4);
        C.due("THE TREASURY keeps the rest", x.treasury(0), 6);
        TollsBack y = Check.realm(Realms.PAIR);
        y.comes(100);
        C.due("free", y.go(0, 0), 0);
        C.due("a SLIP of 0", y.of(0, 3), 1);
        C.due("had back: 0", y.go(0, 0), 1000);
        y.go(0, 0);
        C.due("by another ROAD", y.go(0, 1), 9);
        y.toss(0);
        C.due("at HOME with a SLIP of the ROAD from HOME", y.of(0, 3), 1);
        C.due("he didn't come by it to this TOWN: he pays", y.go(0, 0), 0);
        C.due("two SLIPS of one kind", y.of(0, 3), 2);
        dueSlip(y, 0, 1, 0, 0, 1, 5, 0, 0);
    }

    private static void goCodes() {
        TollsBack x = Check.realm(REALM);
        x.comes(9);
        C.due("go(0, 3)", x.go(0, 3), -2);
        C.due("go(0, -1)", x.go(0, -1), -2);
        C.due("go(1, 0)", x.go(1, 0), -2);
        C.due("go(-1, 0)", x.go(-1, 0), -2);
        C.due("too dear", x.go(0, 0), -5);
        C.due("elsewhere and too dear", x.go(0, 1), -9);
        x.close(1, true);
        C.due("closed, elsewhere", x.go(0, 1), -8);
        x.close(0, true);
        C.due("closed, too dear", x.go(0, 0), -8);
        due(x, 0, 0, 0, 9, 0, 0, 0);
        TollsBack y = Check.realm(REALM);
        y.comes(10);
        C.due("just enough", y.go(0, 0), 10);
        C.due("nothing is asked who comes back", y.go(0, 0), 1010);
        C.due("just too little", y.go(0, 2), -5);
    }

    private static void fortySlips() {
        TollsBack x = Realms.withForty();
        C.due("forty", x.of(0, 3), 40);
        C.due("one more that is paid", x.go(0, 0), -4);
        C.due("one that is had back", x.go(0, 1), 1009);
        C.due("then there is room", x.go(0, 1), 9);
        TollsBack y = Check.realm(Realms.PAIR);
        y.comes(20 * 9);
        for (int k = 0; k < 40; k++) {
            y.go(0, 1 - k % 2);
        }
        C.due("full and poor: the PURSE is told first", y.go(0, 1), -5);
        y.close(1, true);
        C.due("full, poor, closed", y.go(0, 1), -8);
    }

    private static void toss() {
        TollsBack x = Check.realm(REALM);
        x.comes(100);
        x.go(0, 0);
        x.go(0, 1);
        x.rest(0, 999);
        x.close(1, true);
        C.due("what was paid, late and closed or not", x.toss(0), 7);
        due(x, 0, 2, 1007, 83, 1, 17, 0);
        C.due("THE TREASURY keeps it", x.treasury(0), 17);
        C.due("the next", x.toss(0), 10);
        C.due("no SLIP", x.toss(0), -5);
        C.due("toss(1)", x.toss(1), -2);
        C.due("toss(-1)", x.toss(-1), -2);
    }

    private static void rest() {
        TollsBack x = Check.realm(REALM);
        x.comes(100);
        C.due("rest(0, 0)", x.rest(0, 0), 0);
        C.due("rest(0, 9999)", x.rest(0, 9999), 9999);
        C.due("rest(0, 10000)", x.rest(0, 10000), -3);
        C.due("rest(0, -1)", x.rest(0, -1), -3);
        C.due("rest(1, -1)", x.rest(1, -1), -2);
        for (int k = 2; k <= 10; k++) {
            C.due("rest", x.rest(0, 9999), 9999 * k);
        }
        C.due("up to 99999", x.rest(0, 9), 99999);
        C.due("beyond", x.rest(0, 1), -5);
        C.due("beyond, no such number", x.rest(0, 10000), -3);
        C.due("none", x.rest(0, 0), 99999);
        C.due("going goes on", x.go(0, 0), x.road(0, 2 + x.summer(99999)));
        C.due("his DAY", x.of(0, 1), 100004);
        C.due("no rest there", x.rest(0, 0), -5);
    }

    private static void give() {
        TollsBack x = Check.realm(REALM);
        x.comes(100);
        x.comes(50);
        x.comes(0);
        C.due("no SLIP", x.give(0, 1, 0), -5);
        x.go(0, 0);
        C.due("unlike TOWNS", x.give(0, 1, 0), -5);
        C.due("unlike TOWNS, coins too", x.give(0, 1, -1), -5);
        C.due("himself", x.give(0, 0, 0), -2);
        C.due("no other one", x.give(0, 3, 0), -2);
        C.due("none such", x.give(-1, 0, 0), -2);
        x.go(1, 0);
        C.due("coins below 0", x.give(0, 1, -1), -3);
        C.due("more than he has", x.give(0, 1, 41), -3);
        C.due("all he has", x.give(0, 1, 40), 2);
        due(x, 0, 1, 5, 130, 0, 10, 0);
        due(x, 1, 1, 5, 0, 2, 10, 0);
        dueSlip(x, 1, 1, 0, 0, 1, 0, 10, 10);
        C.due("THE TREASURY has what it had", x.treasury(0), 20);
        C.due("SLIPS of all", x.treasury(1), 2);
    }

    private static void givenSlipIsHadBack() {
        TollsBack x = Check.realm(REALM);
        x.comes(100);
        x.comes(100);
        x.rest(0, 200);
        x.go(0, 0);
        x.go(1, 2);
        x.go(1, 1);
        C.due("a SLIP of another one's later DAY", x.give(0, 1, 0), 3);
        dueSlip(x, 1, 2, 0, 0, 1, 200, 20, 20);
        C.due("he has it back though he came otherwise", x.go(1, 0), 1020);
        C.due("his TOWN", x.of(1, 0), 0);
        C.due("he has two of his own", x.of(1, 3), 2);
        C.due("the top one leads elsewhere: he pays", x.go(1, 2), 30);
    }

    private static void giveToAFullOne() {
        TollsBack x = Realms.withForty();
        x.comes(0);
        x.go(1, 0);
        x.toss(0);
        x.go(0, 0);
        C.due("forty again", x.of(0, 3), 40);
        C.due("in one TOWN", x.of(1, 0), x.of(0, 0));
        C.due("the other one has 40", x.give(1, 0, 0), -4);
        C.due("coins are told first", x.give(1, 0, 100000), -3);
        C.due("nothing changes", x.of(1, 3), 1);
        x.toss(0);
        C.due("the fortieth", x.give(1, 0, 0), 40);
    }

    private static void change() {
        TollsBack x = Check.realm(REALM);
        x.comes(100);
        x.comes(100);
        x.go(0, 0);
        x.go(0, 1);
        C.due("unlike TOWNS", x.change(0, 1), -5);
        x.go(1, 2);
        C.due("the first has then", x.change(0, 1), 1);
        dueSlip(x, 0, 0, 2, 0, 2, 0, 30, 30);
        dueSlip(x, 1, 0, 0, 0, 1, 0, 10, 10);
        dueSlip(x, 1, 1, 1, 1, 2, 5, 7, 7);
        C.due("slip(0, 1, 0)", x.slip(0, 1, 0), -7);
        C.due("PURSES stay", x.of(0, 2), 83);
        C.due("back", x.change(0, 1), 2);
        C.due("himself", x.change(0, 0), -2);
        C.due("change(0, 2)", x.change(0, 2), -2);
        C.due("change(-1, 0)", x.change(-1, 0), -2);
        C.due("and then he has it back", x.go(0, 1), 1007);
    }

    private static void dueJudged(TollsBack x, int row, int... want) {
        for (int what = 0; what < 7; what++) {
            C.due("judge(0, " + row + ", " + what + ")", x.judge(0, row, what), want[what]);
        }
    }

    private static void judge() {
        TollsBack x = Check.realm(REALM);
        x.comes(50);
        C.due("MISSING", x.judge(0, 0, 0), -6);
        C.due("MISSING, what", x.judge(0, 0, 7), -2);
        C.due("no ROW", x.judge(0, 4, 0), -2);
        C.due("no ROW below 0", x.judge(0, -1, 0), -2);
        C.due("no TRAVELLER", x.judge(1, 0, 0), -2);
        Check.row(x, 0, 0, 1, 1, 0);
        dueJudged(x, 0, -1, 0, 17, 17, 0, 0, 16);
        Check.row(x, 0, 0, 1, 2, 0);
        dueJudged(x, 0, 3, -5, 47, 0, 3, 0, 9);
        Check.row(x, 0, 0, 2);
        dueJudged(x, 0, 1, -9, 10, 0, 1, 1, 5);
        Check.row(x, 0, 0, 3);
        dueJudged(x, 0, 1, -2, 10, 0, 1, 1, 5);
        Check.row(x, 0, 0, -1);
        dueJudged(x, 0, 1, -2, 10, 0, 1, 1, 5);
        Check.row(x, 0, 1L << 32);
        dueJudged(x, 0, 0, -2, 0, 0, 0, 0, 0);
        x.close(1, true);
        Check.row(x, 0, 0, 1, 9);
        dueJudged(x, 0, 1, -8, 10, 0, 1, 1, 5);
        Check.row(x, 0);
        dueJudged(x, 0, -1, 0, 0, 0, 0, 0, 0);
        C.due("judge(0, 0, -1)", x.judge(0, 0, -1), -2);
        due(x, 0, 0, 0, 50, 0, 0, 0);
        C.due("nothing stays", x.treasury(0), 0);
        TollsBack y = Realms.withForty();
        Check.row(y, 0, 1, 1, 0);
        dueJudged(y, 0, 2, -4, 9, 9, 40, 0, 64);
    }

    private static void perform() {
        TollsBack x = Check.realm(REALM);
        x.comes(50);
        C.due("MISSING", x.perform(0, 0), -6);
        C.due("no ROW", x.perform(0, 4), -2);
        C.due("no TRAVELLER", x.perform(1, 0), -2);
        Check.row(x, 0, 0, 1, 2, 0, 1);
        C.due("till one can't be", x.perform(0, 0), 3);
        due(x, 0, 0, 9, 3, 3, 47, 0);
        C.due("THE TREASURY has it", x.treasury(0), 47);
        C.due("THE LEDGER too", x.ledger(5, 5), 7);
        Check.row(x, 0, 2, 1, 0);
        C.due("all of it", x.perform(0, 0), 3);
        due(x, 0, 0, 18, 50, 0, 47, 47);
        Check.row(x, 0);
        C.due("none", x.perform(0, 0), 0);
        Check.row(x, 0, 99, 0);
        C.due("no ROAD", x.perform(0, 0), 0);
        C.due("he is where he was", x.of(0, 1), 18);
    }
}

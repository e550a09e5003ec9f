/** The edges that the document names of ROWS OF NUMBERS and IMAGES: promises 41 to 46. */
final class RowEdges {
    private static final int MIN = Realms.MIN;
    private static final int MAX = Realms.MAX;

    private final Check c;

    RowEdges(Check c) {
        this.c = c;
    }

    void all() {
        numbers();
        numbersRefused();
        write();
        copy();
        copyRefused();
        images();
        imageHolds();
        count();
        codes();
    }

    private void numbers() {
        c.says(Check.TERMS, "ROWS OF NUMBERS 0 to 3 are MISSING at first, or have 0 to 40 numbers of 8 bits (sort 0), 16 (1), "
                + "32 (2), 64 (3).");
        c.says(41, "A ROW OF NUMBERS has n numbers of a sort, all 0 (in place of another one): 0.");
        for (int row = 0; row < 4; row++) {
            for (int sort = 0; sort < 4; sort++) {
                TollsBack x = new TollsBack();
                c.due("MISSING at first", x.write(row, 0, 1), -6);
                c.due("none", x.numbers(row, sort, 0), 0);
                c.due("no first", x.write(row, 0, 1), -7);
                c.due("forty", x.numbers(row, sort, 40), 0);
                c.due("the fortieth", x.write(row, 39, 1), 1);
                c.due("no forty-first", x.write(row, 40, 1), -7);
                c.due("one", x.numbers(row, sort, 1), 0);
                c.due("no second", x.write(row, 1, 1), -7);
                for (int other = 0; other < 4; other++) {
                    c.due("the others are MISSING", x.write(other, 0, 1), other == row ? 1 : -6);
                }
            }
        }
        TollsBack y = Check.realm(Realms.ROUND);
        Check.row(y, 0, 2, 2, 2);
        c.due("no SLIP from HOME", y.forged(0), 0);
        y.numbers(0, 3, 3);
        c.due("all 0 in place of another one: the second begins amiss", y.forged(0), 1);
        y.numbers(0, 3, 1);
        c.due("the first is 0", y.forged(0), -1);
        TollsBack z = Realms.busy();
        c.due("of another sort", z.numbers(0, 3, 2), 0);
        c.due("64 bits", z.write(0, 0, Long.MAX_VALUE), Long.MAX_VALUE);
    }

    private void numbersRefused() {
        c.says(41, "-2: no such ROW, sort; -3, and the ROW stays: n is below 0 or above 40.");
        c.on(Realms::busy);
        c.stayAll("numbers(#, 0, 1)", (x, row) -> x.numbers(row, 0, 1), -2, -1, 4, MIN, MAX);
        c.stayAll("numbers(0, #, 1)", (x, sort) -> x.numbers(0, sort, 1), -2, -1, 4, MIN, MAX);
        c.stayAll("numbers(#, 4, 41)", (x, row) -> x.numbers(row, 4, 41), -2, -1, 0, 4);
        c.stayAll("numbers(0, 3, #)", (x, n) -> x.numbers(0, 3, n), -3, -1, 41, MIN, MAX);
        c.stayAll("numbers(3, 0, #)", (x, n) -> x.numbers(3, 0, n), -3, -1, 41);
    }

    private void write() {
        c.says(42, "Number i of a ROW OF NUMBERS is v, cut to its sort: as it is there.");
        for (int sort = 0; sort < 4; sort++) {
            TollsBack x = new TollsBack();
            x.numbers(2, sort, 40);
            int bits = 8 << sort;
            long most = sort == 3 ? Long.MAX_VALUE : (1L << bits - 1) - 1;
            c.due("the most of sort " + sort, x.write(2, 0, most), most);
            c.due("one more turns about", x.write(2, 0, most + 1), -most - 1);
            c.due("the least of sort " + sort, x.write(2, 39, -most - 1), -most - 1);
            c.due("one less turns about", x.write(2, 39, -most - 2), most);
            c.due("0", x.write(2, 1, 0), 0);
            c.due("-1", x.write(2, 1, -1), -1);
            c.due("a whole turn", x.write(2, 1, sort == 3 ? 0 : 1L << bits), 0);
            c.due("a whole turn and 5", x.write(2, 1, sort == 3 ? 5 : (1L << bits) + 5), 5);
            c.due("MIN", x.write(2, 1, Long.MIN_VALUE), sort == 3 ? Long.MIN_VALUE : 0);
            c.due("MAX", x.write(2, 1, Long.MAX_VALUE), sort == 3 ? Long.MAX_VALUE : -1);
        }
        TollsBack y = Check.realm(Realms.ROUND);
        y.comes(100);
        y.numbers(0, 0, 1);
        y.write(0, 0, 258);
        c.due("it is as it is there: 2", y.judge(0, 0, 2), 30);
        y.numbers(0, 1, 1);
        y.write(0, 0, 258);
        c.due("258 is no ROAD", y.judge(0, 0, 1), -2);
        c.says(42, "-2: no such ROW; -6; -7.");
        c.on(Realms::busy);
        c.stayAll("write(#, 0, 1)", (x, row) -> x.write(row, 0, 1), -2, -1, 4, MIN, MAX);
        c.stayAll("write(4, #, 1)", (x, i) -> x.write(4, i, 1), -2, -1, 0, 40);
        c.stayAll("write(3, #, 1)", (x, i) -> x.write(3, i, 1), -6, -1, 0, 40);
        c.stayAll("write(0, #, 1)", (x, i) -> x.write(0, i, 1), -7, -1, 2, 39, 40, MIN, MAX);
        c.stayAll("write(2, #, 1)", (x, i) -> x.write(2, i, 1), -7, -1, 0);
        c.stays("write(1, 2, 0), as it was", x -> x.write(1, 2, 0), 0);
    }

    private void copy() {
        c.says(43, "A TRAVELLER's SLIPS (as a ROW of SLIPS) come into a ROW from its first place on: how many.");
        for (int sort = 0; sort < 4; sort++) {
            TollsBack x = Realms.busy();
            x.numbers(3, sort, 4);
            x.write(3, 1, 77);
            x.write(3, 2, 4);
            x.write(3, 3, 3);
            c.due("two", x.copy(0, 3), 2);
            c.due("0, 2, then 4 as it was, then 3", x.forged(3), 3);
            x.numbers(3, sort, 1);
            c.due("one into just one place", x.copy(1, 3), 1);
            c.due("from its second TOWN to its first: 5", x.journey(3, 1, 0, 0), 2);
            x.numbers(3, sort, 0);
            c.due("none into none", x.copy(2, 3), 0);
        }
        TollsBack y = Realms.withForty();
        y.numbers(0, 0, 40);
        c.due("forty", y.copy(0, 0), 40);
        c.due("they can be", y.forged(0), -1);
        c.due("one JOURNEY leaves them", y.journeys(0, 40), 1);
        TollsBack z = Check.realm(Realms.manyRoads(24, "toll0days1"));
        z.comes(0);
        z.go(0, 0);
        z.go(0, 23);
        z.numbers(0, 0, 3);
        c.due("two", z.copy(0, 0), 2);
        c.due("and as it was behind: 0 begins at HOME, where 47 ended", z.forged(0), -1);
        z.write(0, 2, 46);
        c.due("47 turned about", z.forged(0), 2);
    }

    private void copyRefused() {
        c.says(43, "-2: the TRAVELLER, ROW; -6; -7: it has not so many places (nothing comes).");
        c.on(Realms::busy);
        c.stayAll("copy(#, 1)", (x, i) -> x.copy(i, 1), -2, -1, 3, MIN, MAX);
        c.stayAll("copy(0, #)", (x, row) -> x.copy(0, row), -2, -1, 4, MIN, MAX);
        c.stays("copy(3, 3)", x -> x.copy(3, 3), -2);
        c.stayAll("copy(#, 3)", (x, i) -> x.copy(i, 3), -6, 0, 1, 2);
        c.stayAll("copy(#, 2)", (x, i) -> x.copy(i, 2), -7, 0, 1);
        c.on(() -> {
            TollsBack x = Realms.busy();
            Check.row(x, 2, 77);
            return x;
        });
        c.stays("two into one place", x -> x.copy(0, 2), -7);
        c.due("into just so many", Realms.busy().copy(0, 0), 2);
        c.on(() -> {
            TollsBack x = Realms.withForty();
            x.numbers(0, 3, 39);
            x.write(0, 0, 77);
            return x;
        });
        c.stays("forty into 39", x -> x.copy(0, 0), -7);
    }

    private void images() {
        c.says(44, "An IMAGE is made: 0. -2.");
        c.says(45, "All that is in an IMAGE is as it was: 0. -2; -5: none was made.");
        c.on(Realms::busy);
        c.stayAll("image(#)", TollsBack::image, -2, -1, 2, MIN, MAX);
        c.stayAll("restore(#)", TollsBack::restore, -2, -1, 2, MIN, MAX);
        c.stays("restore(1)", x -> x.restore(1), -5);
        c.on(TollsBack::new);
        c.stayAll("restore(#)", TollsBack::restore, -5, 0, 1);
        TollsBack x = new TollsBack();
        c.due("of a new object", x.image(1), 0);
        c.due("none", x.restore(0), -5);
        Check.kingdom(x, Realms.ROUND);
        c.due("of a KINGDOM", x.image(0), 0);
        c.due("none again", x.restore(1), 0);
        c.due("no TOWNS", x.count(0), 0);
        c.due("comes", x.comes(0), -5);
        c.due("a KINGDOM again", x.restore(0), 0);
        c.due("three TOWNS", x.count(0), 3);
        c.due("once more", x.restore(0), 0);
        c.on(() -> {
            TollsBack y = Realms.busy();
            y.image(1);
            return y;
        });
        c.stays("at once: nothing is otherwise", y -> y.restore(1), 0);
        c.stays("the same again", y -> y.image(1), 0);
    }

    private void imageHolds() {
        c.says(Check.TERMS, "IMAGES 0 to 1: all but THE TAPE, the FAULT and ROWS, as it was (none at first).");
        c.on(() -> {
            TollsBack x = Realms.onTheWay();
            x.rest(0, 33);
            x.go(0, 2);
            x.rest(2, 44);
            x.image(1);
            return x;
        });
        c.stays("all is as it was", x -> {
            x.go(0, 2);
            x.give(0, 1, 20);
            x.change(0, 1);
            x.go(0, 2);
            x.rest(0, 55);
            x.go(0, 2);
            x.rest(2, 99);
            x.comes(5);
            x.close(1, false);
            x.close(0, true);
            x.restore(0);
            x.comes(3);
            x.restore(1);
            Check.kingdom(x, "towns 2;home 1;year 7;late 8;summer 1 to 2;road 0 to 1 toll 3 days 4;");
            x.comes(8);
            x.go(0, 0);
            Check.kingdom(x, "year 9;x");
            return x.restore(1);
        }, 0);
        TollsBack y = Realms.busy();
        y.image(1);
        Check.feed(y, "late 9;");
        y.kingdom(1);
        Check.feed(y, "late 8;");
        y.numbers(3, 0, 7);
        y.write(1, 0, 99);
        c.due("restore(1)", y.restore(1), 0);
        c.due("THE TAPE isn't in it", y.count(7), 20);
        c.due("the FAULT isn't", y.fault(0), 2);
        c.due("its place isn't", y.fault(1), 0);
        c.due("ROWS are not", y.write(3, 6, 5), 5);
        c.due("nor their numbers", y.judge(0, 1, 1), -2);
        c.due("TRAVELLERS are", y.count(2), 3);
        c.due("a good FAULT", y.kingdom(7), 1);
        c.due("stays", y.restore(1) + y.fault(0), 0);
        TollsBack z = Realms.fullHouse();
        z.image(0);
        z.toss(0);
        z.image(1);
        z.toss(0);
        z.restore(0);
        c.due("two SLIPS", z.of(0, 3), 2);
        z.restore(1);
        c.due("one SLIP", z.of(0, 3), 1);
        z.go(0, 2);
        c.due("six TRAVELLERS", z.count(2), 6);
        z.restore(0);
        c.due("the IMAGE didn't go with him", z.of(0, 3), 2);
        c.due("his PURSE", z.of(0, 2), 83);
    }

    private void count() {
        c.says(46, "0 TOWNS, 1 ROADS, 2 TRAVELLERS, 3 HOME (NONE without TOWNS), 4 year, 5 late, 6 closed ROADS, "
                + "7 bytes on THE TAPE, 8 LINES. NONE for others.");
        TollsBack x = Realms.busy();
        c.dueEach("count(#)", x::count, 3, 3, 3, 0, 100, 40, 1, 20, 6, -1);
        TollsBack y = Realms.noTowns();
        c.dueEach("without TOWNS: count(#)", y::count, 0, 0, 0, -1, 5, 6, 0, 20, 2, -1);
        TollsBack z = Check.realm("towns 12;home 11;" + Realms.manyRoads(24, "toll0days1").substring(7));
        for (int i = 0; i < 6; i++) {
            z.comes(i);
        }
        for (int r = 0; r < 24; r++) {
            z.close(r, true);
        }
        Check.feed(z, " ".repeat(700));
        c.dueEach("the most: count(#)", z::count, 12, 24, 6, 11, 360, 50, 24, 700, 26, -1);
        c.on(Realms::busy);
        c.stayAll("count(#)", TollsBack::count, -1, -1, 9, 10, MIN, MAX);
    }

    private void codes() {
        c.says(Check.TERMS, "Refused calls answer by a code and change nothing: -2 there is none such; -3 a number can't be; "
                + "-4 FULL; -5 it can't be now; -6 a ROW OF NUMBERS is MISSING; -7 it has no such number; -8, -9 as told; "
                + "-30 less the FAULT: a text. (Of several that which the call tells first.)");
        c.on(Realms::busy);
        c.stays("-2", x -> x.go(3, 0), -2);
        c.stays("-3", x -> x.comes(-1), -3);
        c.stays("-5", x -> x.toss(2), -5);
        c.stays("-6", x -> x.perform(0, 3), -6);
        c.stays("-7", x -> x.write(0, 2, 5), -7);
        c.stays("-8", x -> x.go(0, 1), -8);
        c.stays("-9", x -> x.go(0, 0), -9);
        c.on(Realms::withForty);
        c.stays("-4", x -> x.go(0, 0), -4);
        c.bad(1, "^0000");
        c.bad(4, "towns 2;^towns 2;");
    }
}

/** The edges that the document names of THE KINGDOM: the first of its Terms, promises 1 to 9. */
final class KingdomEdges {
    private static final int MIN = Realms.MIN;
    private static final int MAX = Realms.MAX;

    private final Check c;

    KingdomEdges(Check c) {
        this.c = c;
    }

    void all() {
        text();
        everyTokenInItsPlace();
        towns();
        numbers();
        road();
        roadsThereCanBe();
        laterOnes();
        tokens();
        faults();
        newObject();
        feed();
        kingdom();
        kingdomRefused();
        fault();
        roadAsked();
        from();
        close();
        when();
        summer();
    }

    private void text() {
        c.says(Check.TERMS, "THE KINGDOM is a TEXT of at most 700 bytes (without one: no TOWNS): { LINE ; }");
        c.good("", 0);
        c.good(" \n ", 0);
        c.due("TOWNS without a text", new TollsBack().count(0), 0);
        String hundred = "year 7;".repeat(100);
        c.due("bytes", hundred.length(), 700);
        c.good(hundred, 100);
        String open = hundred.substring(0, 699);
        c.bad(2, open + "^x");
        c.bad(1, open + "^#");
        c.bad(2, open + "0^");
        c.bad(2, "^;");
        c.bad(2, "year 5;^;");
        c.bad(2, "year 5 ^year 6;");
        c.bad(2, "year 5;year 6^");
    }

    private void everyTokenInItsPlace() {
        c.says(Check.TERMS, "LINE: towns N | home N | year N | late N | summer N to N | "
                + "road N to N toll N [ summer N ] days N.");
        inItsPlace("", "towns 2 ;");
        inItsPlace("towns 2;", "home 1 ;");
        inItsPlace("", "year 1 ;");
        inItsPlace("", "late 1 ;");
        inItsPlace("", "summer 1 to 2 ;");
        inItsPlace("towns 2;", "road 0 to 1 toll 1 days 1 ;");
        inItsPlace("towns 2;", "road 0 to 1 toll 1 summer 1 days 1 ;");
    }

    /** Each TOKEN of a LINE cut off, left out, told twice, spelled amiss. */
    private void inItsPlace(String head, String line) {
        String[] t = line.split(" ");
        c.good(head + line, head.isEmpty() ? 1 : 2);
        for (int i = 0; i < t.length; i++) {
            String before = head + joined(t, 0, i);
            String after = joined(t, i + 1, t.length) + "year 5;";
            if (i > 0) {
                c.bad(2, before.trim() + "^");
            }
            c.bad(2, before + "^" + after);
            c.bad(2, before + t[i] + " ^" + t[i] + " " + after);
            if (Character.isLetter(t[i].charAt(0))) {
                c.bad(2, before + "^" + t[i] + "s " + after);
                c.bad(2, before + "^" + t[i].substring(1) + " " + after);
                c.bad(2, before + "^a" + t[i].substring(1) + " " + after);
                c.bad(2, before + "^" + t[i].substring(0, 1) + " " + after);
            } else {
                c.bad(2, before + "^days " + after);
            }
        }
    }

    private static String joined(String[] tokens, int from, int to) {
        StringBuilder s = new StringBuilder();
        for (int i = from; i < to; i++) {
            s.append(tokens[i]).append(' ');
        }
        return s.toString();
    }

    private void towns() {
        c.says(Check.TERMS, "towns 2 to 12, once, ahead of all home and road lines; TOWNS are 0, 1 ..");
        c.bad(3, "towns ^0;");
        c.bad(3, "towns ^1;");
        c.bad(3, "towns ^13;");
        c.bad(3, "towns ^999;");
        c.bad(4, "towns 2;^towns 2;");
        c.bad(2, "^home 0;towns 2;");
        c.bad(2, "^road 0 to 1 toll 1 days 1;towns 2;");
        c.good("year 5;late 5;summer 5 to 5;towns 2;road 0 to 1 toll 1 days 1;home 1;", 6);
        for (int towns : new int[] {2, 12}) {
            TollsBack x = Check.realm("towns " + towns + ";");
            c.due("count(0)", x.count(0), towns);
            c.due("from the first", x.from(0), 0);
            c.due("from the last", x.from(towns - 1), 0);
            c.due("from none", x.from(towns), -2);
        }
    }

    private void numbers() {
        c.says(Check.TERMS, "home: HOME (0 without).");
        c.due("without", Check.realm("towns 12;").count(3), 0);
        c.due("the first", Check.realm("towns 12;home 0;").count(3), 0);
        c.due("the last", Check.realm("towns 12;home 11;").count(3), 11);
        c.bad(3, "towns 12;home ^12;");
        c.bad(3, "towns 2;home ^2;");
        c.says(Check.TERMS, "year: 1 to 360 days (360 without).");
        c.due("without", Check.realm("late 5;").count(4), 360);
        c.due("least", Check.realm("year 1;").count(4), 1);
        c.due("most", Check.realm("year 360;").count(4), 360);
        c.bad(3, "year ^0;");
        c.bad(3, "year ^361;");
        c.says(Check.TERMS, "late: 0 to 100 (50 without).");
        c.due("without", Check.realm("year 5;").count(5), 50);
        c.due("least", Check.realm("late 0;").count(5), 0);
        c.due("most", Check.realm("late 100;").count(5), 100);
        c.bad(3, "late ^101;");
        c.says(Check.TERMS, "summer: days 0 to 359, from one to one not below it (90 to 269 without).");
        summerDays("year 5;", 90, 269);
        summerDays("summer 0 to 0;", 0, 0);
        summerDays("summer 359 to 359;", 359, 359);
        summerDays("summer 0 to 359;", 0, 359);
        summerDays("summer 7 to 8;", 7, 8);
        c.bad(3, "summer ^360 to 360;");
        c.bad(3, "summer 359 to ^360;");
        c.bad(3, "summer 1 to ^0;");
        c.bad(3, "summer 359 to ^358;");
    }

    private void summerDays(String text, int first, int last) {
        TollsBack x = Check.realm(text);
        for (int day = 0; day < 360; day++) {
            if (day < 2 || day > 357 || Math.abs(day - first) < 2 || Math.abs(day - last) < 2) {
                c.due(text + " day " + day, x.summer(day), day >= first && day <= last ? 1 : 0);
            }
        }
    }

    private void road() {
        c.says(Check.TERMS, "road: between two unlike TOWNS, both ways;");
        c.bad(3, "towns 2;road 0 to ^0 toll 1 days 1;");
        c.bad(3, "towns 2;road 1 to ^1 toll 1 days 1;");
        c.bad(3, "towns 12;road 11 to ^12 toll 1 days 1;");
        c.bad(3, "towns 12;road ^12 to 11 toll 1 days 1;");
        TollsBack x = Check.realm("towns 12;road 11 to 0 toll 0 days 1;");
        c.due("from its first", x.from(11), 1);
        c.due("from its second", x.from(0), 1);
        x.comes(0);
        c.due("from its second to its first", x.go(0, 0), 0);
        c.due("there", x.of(0, 0), 11);
        c.says(Check.TERMS, "toll 0 to 999, another one in summer if that is told; days 1 to 90;");
        x = Check.realm("towns 2;road 0 to 1 toll 0 days 1;road 0 to 1 toll 999 days 90;"
                + "road 0 to 1 toll 5 summer 0 days 1;road 0 to 1 toll 5 summer 999 days 1;");
        int[][] due = {{0, 0, 1}, {999, 999, 90}, {5, 0, 1}, {5, 999, 1}};
        for (int r = 0; r < 4; r++) {
            c.due("toll", x.road(r, 2), due[r][0]);
            c.due("toll in summer", x.road(r, 3), due[r][1]);
            c.due("days", x.road(r, 4), due[r][2]);
        }
        c.bad(1, "towns 2;road 0 to 1 toll ^1000 days 1;");
        c.bad(1, "towns 2;road 0 to 1 toll 1 summer ^1000 days 1;");
        c.bad(3, "towns 2;road 0 to 1 toll 1 days ^0;");
        c.bad(3, "towns 2;road 0 to 1 toll 1 days ^91;");
        c.bad(3, "towns 2;road 0 to 1 toll 1 summer 1 days ^91;");
    }

    private void roadsThereCanBe() {
        c.says(Check.TERMS, "ROADS are numbered from 0 on as they come, 24 at most (several between like TOWNS, too).");
        StringBuilder t = new StringBuilder("towns 2;");
        for (int r = 0; r < 24; r++) {
            c.due("ROADS", Check.realm(t.toString()).count(1), r);
            t.append("road ").append(r % 2).append(" to ").append(1 - r % 2).append(" toll ").append(r).append(" days 1;");
        }
        TollsBack x = Check.realm(t.toString());
        c.due("ROADS", x.count(1), 24);
        for (int r = 0; r < 24; r++) {
            c.due("its first TOWN", x.road(r, 0), r % 2);
            c.due("its second TOWN", x.road(r, 1), 1 - r % 2);
            c.due("its toll", x.road(r, 2), r);
        }
        c.bad(4, t + "^road 0 to 1 toll 1 days 1;");
        c.good(t + "year 5;", 26);
        twelveTownsAndAllRoads();
    }

    /** The most TOWNS and ROADS: a row of the longest ones, and the other 13 between the last two TOWNS. */
    private void twelveTownsAndAllRoads() {
        StringBuilder t = new StringBuilder(Realms.longRow());
        for (int r = 11; r < 24; r++) {
            t.append("road11to10toll").append(r).append("days").append(r).append(";");
        }
        TollsBack x = Check.realm(t.toString());
        for (int i = 0; i < 6; i++) {
            x.comes(1000000);
        }
        Check.row(x, 0, 0, 1, 2, 3, 4, 5, 6, 7, 8, 9, 11);
        c.due("to the last TOWN", x.perform(0, 0), 11);
        c.due("by ROAD 23", x.go(0, 23), 23);
        c.due("SLIPS", x.of(0, 3), 12);
        c.due("one more than places", x.copy(0, 0), -7);
        c.due("from(10)", x.from(10), (1 << 24) - 1 - 511);
        c.due("lane to it", x.lane(0, 11, 0, 20), 11);
        c.due("box of it", x.box(2048), 2 * (900 + 11));
        c.due("cutOff(9)", x.cutOff(9), 3072);
        c.due("cutOff(23)", x.cutOff(23), 0);
        c.due("cheapest", x.cheapest(0, 1), 12);
        c.due("partner", x.partner(1), -1);
        c.due("price", x.price(0, 1), 0);
        c.due("gain", x.gain(1, 2, 0), 0);
        c.due("through", x.through(1, 2, 8, 1), 2);
        c.due("fair", x.fair(5, 0, 40), 40);
        Check.row(x, 1, 0, 2, 4, 6, 8, 10, 12, 14, 16, 18, 20, 23, 46);
        c.due("forged", x.forged(1), 11);
        Check.row(x, 1, 0, 2, 4, 6, 8, 10, 12, 14, 16, 18, 47, 44);
        c.due("forged", x.forged(1), -1);
        c.due("journeys", x.journeys(1, 12), 1);
        c.due("journey", x.journey(1, 12, 0, 11), 22);
        c.due("journey, not so many", x.journey(1, 12, 1, 0), -1);
    }

    private void laterOnes() {
        c.says(Check.TERMS, "Later ones of home, year, late, summer strike.");
        TollsBack x = Check.realm("towns 3;home 2;home 1;year 1;year 2;late 3;late 4;summer 5 to 6;summer 7 to 8;");
        c.due("home", x.count(3), 1);
        c.due("year", x.count(4), 2);
        c.due("late", x.count(5), 4);
        c.due("the first summer", x.summer(6), 0);
        c.due("the later summer", x.summer(7), 1);
        c.bad(3, "year 5;year ^0;");
    }

    private void tokens() {
        c.says(Check.TERMS, "TOKENS, as long as they go on, between them blanks (10, 32): "
                + "words (small letters), N (1 to 3 digits), the sign ;.");
        for (int b = 0; b < 256; b++) {
            String text = "year 5;" + (char) b;
            boolean letter = b >= 'a' && b <= 'z';
            boolean digit = b >= '0' && b <= '9';
            if (b == 10 || b == 32) {
                c.good(text, 1);
                c.good("year" + (char) b + "5;", 1);
            } else {
                int kind = letter || digit || b == ';' ? 2 : 1;
                c.bad(kind, "year 5;^" + (char) b);
            }
        }
        c.good("towns2;road0to1toll5summer6days7;home1;year8;late9;summer10to11;", 6);
        c.good("\n\n  towns \n 2 \n ; \n", 1);
        c.bad(2, "^yea r 5;");
        c.bad(2, "^years 5;");
        c.bad(2, "year 1 ^2;");
        c.due("one digit", Check.realm("year 9;").count(4), 9);
        c.due("two digits", Check.realm("year 99;").count(4), 99);
        c.due("three digits", Check.realm("year 199;").count(4), 199);
        c.due("noughts ahead", Check.realm("year 009;").count(4), 9);
        c.bad(1, "year ^0009;");
    }

    private void faults() {
        c.says(Check.TERMS, "FAULTS, the first along the text, of one TOKEN the least kind:");
        c.bad(3, "year ^0;late 101;");
        c.bad(2, "^years 0 # 5555;");
        c.bad(3, "towns ^13;towns 2;#");
        c.bad(4, "towns 2;^towns 13;#");
        c.bad(1, "year ^1000;");
        c.bad(1, "year 5 ^1000;");
        c.bad(1, "^1000 5;");
        c.bad(2, "towns 2;year ^towns 2;");
        String roads = Realms.manyRoads(24, "toll0days1");
        c.bad(2, roads + "year ^road 0 to 1;");
        c.says(Check.TERMS, "1 no TOKEN begins so (4 digits and more: at their first).");
        c.bad(1, "^#");
        c.bad(1, "year^#5;");
        c.bad(1, "year ^9999;");
        c.bad(1, "year ^" + "9".repeat(600) + ";");
        c.bad(1, "year ^" + "0".repeat(40) + "5;");
        c.says(Check.TERMS, "2 it can't stand there (the end: the text's length; home, road ahead of towns).");
        c.bad(2, "year^");
        c.bad(2, "year 5^");
        c.bad(2, "year 5 \n ^");
        c.bad(2, "^home 0;");
        c.bad(2, "year 5;^home 0;");
        c.bad(2, "^road 0 to 1 toll 1 days 1;");
        c.bad(2, "^home");
        c.says(Check.TERMS, "3 an N out of its bounds (the second TOWN of a road that is its first, too).");
        c.bad(3, "towns 3;road 2 to ^2 toll 1 days 1;");
        c.bad(3, "towns 3;road 2 to ^002 toll 1 days 1;");
        c.bad(3, "towns 3;road ^3 to 3 toll 1 days 1;");
        c.says(Check.TERMS, "4 the first TOKEN of a second towns, of a 25th road.");
        c.bad(4, "towns 2;year 5;^towns 3;");
        c.bad(4, "towns 2;^towns");
        c.bad(4, roads + "^road");
        c.bad(4, roads + "year 5;^road 0 to 0;");
    }

    private void newObject() {
        c.says(1, "No KINGDOM, no TRAVELLERS.");
        TollsBack x = new TollsBack();
        c.dueEach("count(#)", x::count, 0, 0, 0, -1, 360, 50, 0, 0, 0, -1);
        c.due("NONE", TollsBack.NONE, -1);
        c.due("a FAULT", x.fault(0), 0);
        c.due("its place", x.fault(1), -1);
        c.due("THE TREASURY", x.treasury(0), 0);
        c.on(TollsBack::new);
        c.stays("from(0)", y -> y.from(0), -2);
        c.stays("road(0, 0)", y -> y.road(0, 0), -2);
        c.stays("close(0, true)", y -> y.close(0, true), -2);
        c.stays("when(0, 0)", y -> y.when(0, 0), -2);
        c.stays("comes(0)", y -> y.comes(0), -5);
        c.stays("of(0, 0)", y -> y.of(0, 0), -2);
        c.stays("go(0, 0)", y -> y.go(0, 0), -2);
        c.stays("lane(0, 0, 0, 0)", y -> y.lane(0, 0, 0, 0), -2);
        c.stays("cutOff(0)", y -> y.cutOff(0), -2);
        c.stays("box(0)", y -> y.box(0), -5);
        c.stays("kingdom(1)", y -> y.kingdom(1), -3);
        c.stays("kingdom(0)", y -> y.kingdom(0), 0);
        c.stays("a TRAVELLER none of whom came: fair(0, 0, 1)", y -> y.fair(0, 0, 1), -2);
    }

    private void feed() {
        c.says(2, "Twenty bytes come behind those on THE TAPE, the highest of each int first: how many it has.");
        TollsBack x = new TollsBack();
        // "year 321;late 98;" and blanks.
        c.due("the first twenty", x.feed(0x79656172, 0x20333231, 0x3b6c6174, 0x65203938, 0x3b202020), 20);
        c.due("twenty behind", x.feed(0x79656172, 0x20312020, 0x20202020, 0x20202020, 0x2020203b), 40);
        c.due("all three LINES", x.kingdom(40), 3);
        c.due("the last byte of the last int ends the last LINE", x.count(4), 1);
        c.due("late", x.count(5), 98);
        for (int n = 0; n < 5; n++) {
            for (int place = 0; place < 4; place++) {
                int[] v = {0x20202020, 0x20202020, 0x20202020, 0x20202020, 0x20202020};
                v[n] = v[n] & ~(255 << 24 - 8 * place) | 200 << 24 - 8 * place;
                x.feed(v[0], v[1], v[2], v[3], v[4]);
                c.due("a byte of 200", x.kingdom(20), -31);
                c.due("its place", x.fault(1), 4 * n + place);
            }
        }
        c.says(2, "-5: it would have more than 700.");
        TollsBack y = new TollsBack();
        for (int bytes = 20; bytes <= 700; bytes += 20) {
            c.due("feed", y.feed(0, 0, 0, 0, 0), bytes);
        }
        c.due("one more", y.feed(0, 0, 0, 0, 0), -5);
        c.due("bytes", y.count(7), 700);
        c.on(Realms::fullTape);
        c.due("full", Realms.fullTape().count(7), 700);
        c.stays("feed(0, 0, 0, 0, 0)", z -> z.feed(0, 0, 0, 0, 0), -5);
        c.stays("feed(MIN, MAX, -1, 1, 0)", z -> z.feed(MIN, MAX, -1, 1, 0), -5);
        TollsBack w = Realms.fullTape();
        c.due("all 700", w.kingdom(700), 98);
        c.due("then twenty", w.feed(0, 0, 0, 0, 0), 20);
    }

    private void kingdom() {
        c.says(3, "The first n bytes of THE TAPE (which is empty then) are THE KINGDOM,");
        TollsBack x = new TollsBack();
        Check.feed(x, "towns 5;towns 6;");
        c.due("eight of twenty", x.kingdom(8), 1);
        c.due("TOWNS", x.count(0), 5);
        c.due("THE TAPE", x.count(7), 0);
        Check.feed(x, "late 11;late 12;year");
        c.due("all twenty", x.kingdom(20), -32);
        c.due("THE TAPE", x.count(7), 0);
        c.due("none of none", x.kingdom(0), 0);
        c.due("no TOWNS", x.count(0), 0);
        Check.feed(x, "late 12;");
        c.due("none of twenty", x.kingdom(0), 0);
        c.due("late without", x.count(5), 50);
        c.due("THE TAPE", x.count(7), 0);
        c.says(3, "without TRAVELLERS, all ROADS open, THE TREASURY empty: how many LINES (all stays with a FAULT).");
        TollsBack y = Realms.busy();
        y.kingdom(0);
        c.due("LINES", Check.kingdom(y, Realms.ROUND), 6);
        c.due("TRAVELLERS", y.count(2), 0);
        c.due("closed ROADS", y.count(6), 0);
        c.dueEach("treasury(#)", y::treasury, 0, 0, 0);
        c.due("THE LEDGER", y.ledger(0, 719), 0);
        c.due("a TRAVELLER comes", y.comes(7), 0);
        c.dueEach("of(0, #)", what -> y.of(0, what), 0, 0, 7, 0, 0, 0);
        TollsBack w = Realms.busy();
        w.close(1, false);
        w.go(0, 1);
        w.kingdom(0);
        Check.kingdom(w, "towns 3;home 2;year 7;late 8;summer 1 to 2;road 0 to 2 toll 9 days 9;");
        Check.kingdom(w, "towns 2;road 0 to 1 toll 4 days 3;");
        c.dueEach("nothing is left of the one ahead: count(#)", w::count, 2, 1, 0, 0, 360, 50, 0, 0, 2);
        c.dueEach("summer: 90 and 269, not 2", what -> w.summer(new int[] {2, 89, 90, 269, 270}[what]), 0, 0, 1, 1, 0);
        c.dueEach("the first ROAD: road(0, #)", what -> w.road(0, what), 0, 1, 4, 4, 3, 0);
        c.due("a TRAVELLER comes", w.comes(9), 0);
        c.dueEach("nor of the first TRAVELLER: of(0, #)", what -> w.of(0, what), 0, 0, 9, 0, 0, 0);
        Check.kingdom(w, "towns 3;road 0 to 1 toll 1 days 1;road 0 to 2 toll 1 days 1;road 1 to 2 toll 1 days 1;");
        Check.kingdom(w, "towns 3;road 0 to 1 toll 4 days 3;");
        c.due("nor of its ROADS: from(2)", w.from(2), 0);
        c.due("lane(0, 2, 0, 0)", w.lane(0, 2, 0, 0), -1);
        c.due("box(4)", w.box(4), -1);
        c.due("cutOff(0)", w.cutOff(0), 2);
        w.comes(4);
        w.numbers(0, 0, 0);
        c.due("through(0, 2, 2, 0)", w.through(0, 2, 2, 0), 0);
        c.due("through(0, 4, 8, 0)", w.through(0, 4, 8, 0), -1000000);
        c.due("journeys(0, 2)", w.journeys(0, 2), 1);
        c.due("journey(0, 2, 0, 1)", w.journey(0, 2, 0, 1), 0);
        c.due("journey(0, 2, 1, 0)", w.journey(0, 2, 1, 0), -1);
        c.due("fair(0, 3, 40)", w.fair(0, 3, 40), 40);
        String land = "towns 4;home 3;year 9;late 8;summer 1 to 2;road 0 to 1 toll 1 days 1;";
        c.on(() -> {
            TollsBack z = Realms.onTheWay();
            Check.kingdom(z, " ".repeat(land.length()) + "x");
            return z;
        });
        c.stays("a KINGDOM with a FAULT at its end", z -> Check.kingdom(z, land + "x"), -32);
        c.on(Realms::onTheWay);
        c.stays("a year, then a FAULT", z -> Check.kingdom(z, "year 8;home 0;"), -32);
        c.stays("TOWNS, then a FAULT", z -> Check.kingdom(z, "towns 9x"), -32);
    }

    private void kingdomRefused() {
        c.says(3, "-3: n is below 0 or above what there is (THE TAPE stays); -30 less the FAULT.");
        c.on(Realms::busy);
        c.stayAll("kingdom(#)", TollsBack::kingdom, -3, -1, 21, 40, 700, MIN, MAX);
        c.on(Realms::noTowns);
        c.stayAll("kingdom(#)", TollsBack::kingdom, -3, -1, 21, 701);
        c.on(TollsBack::new);
        c.stayAll("kingdom(#)", TollsBack::kingdom, -3, -1, 1, 20);
        c.on(Realms::fullTape);
        c.stayAll("kingdom(#)", TollsBack::kingdom, -3, -1, 701);
        c.due("kingdom(20)", Realms.busy().kingdom(20), 1);
        c.due("kingdom(0)", Realms.busy().kingdom(0), 0);
        c.bad(1, "^#");
        c.bad(2, "^x");
        c.bad(3, "year ^0;");
        c.bad(4, "towns 2;^towns 2;");
    }

    private void fault() {
        c.says(4, "Of the latest kingdom() that was read, what 0: its FAULT (0), 1: its place (NONE).");
        TollsBack x = new TollsBack();
        c.dueEach("of none: fault(#)", x::fault, 0, -1, -1);
        Check.kingdom(x, "towns 2;towns 2;");
        c.dueEach("fault(#)", x::fault, 4, 8, -1);
        c.due("not read", x.kingdom(1), -3);
        c.dueEach("it stays: fault(#)", x::fault, 4, 8, -1);
        Check.kingdom(x, "#");
        c.dueEach("the latest: fault(#)", x::fault, 1, 0, -1);
        x.kingdom(0);
        c.dueEach("a good one: fault(#)", x::fault, 0, -1, -1);
        c.says(4, "NONE for others.");
        c.on(Realms::busy);
        c.stayAll("fault(#)", TollsBack::fault, -1, -1, 2, 3, MIN, MAX);
        c.stays("fault(0)", y -> y.fault(0), 2);
        c.stays("fault(1)", y -> y.fault(1), 7);
    }

    private void roadAsked() {
        c.says(5, "Of a ROAD, what 0, 1: its TOWNS, 2: its toll, 3: in summer, 4: days, 5: 1 if it is closed, else 0.");
        TollsBack x = Realms.busy();
        c.dueEach("road(0, #)", what -> x.road(0, what), 0, 1, 10, 20, 5, 0);
        c.dueEach("road(1, #)", what -> x.road(1, what), 1, 2, 7, 7, 3, 1);
        c.dueEach("road(2, #)", what -> x.road(2, what), 2, 0, 30, 3, 1, 0);
        TollsBack y = Check.realm(Realms.manyRoads(24, "toll7days8"));
        c.dueEach("road(23, #)", what -> y.road(23, what), 0, 1, 7, 7, 8, 0);
        c.due("road(24, 0)", y.road(24, 0), -2);
        c.says(5, "-2.");
        c.on(Realms::busy);
        c.stayAll("road(#, 0)", (z, r) -> z.road(r, 0), -2, -1, 3, 23, 24, 32, MIN, MAX);
        c.stayAll("road(2, #)", (z, what) -> z.road(2, what), -2, -1, 6, MIN, MAX);
    }

    private void from() {
        c.says(6, "Open ROADS that lead from a TOWN, as bits.");
        TollsBack x = Realms.busy();
        c.dueEach("from(#)", x::from, 5, 1, 4, -2);
        TollsBack y = Check.realm(Realms.manyRoads(24, "toll7days8"));
        c.due("all 24", y.from(1), (1 << 24) - 1);
        for (int r = 0; r < 24; r++) {
            y.close(r, true);
        }
        c.due("all closed", y.from(0), 0);
        c.says(6, "-2.");
        c.on(Realms::busy);
        c.stayAll("from(#)", TollsBack::from, -2, -1, 3, 11, 12, MIN, MAX);
    }

    private void close() {
        c.says(7, "A ROAD is closed, or open: 1 if it was closed, else 0.");
        TollsBack x = Realms.busy();
        c.due("a closed one closed", x.close(1, true), 1);
        c.due("it is closed", x.road(1, 5), 1);
        c.due("a closed one opened", x.close(1, false), 1);
        c.due("an open one opened", x.close(1, false), 0);
        c.due("it is open", x.road(1, 5), 0);
        c.due("an open one closed", x.close(1, true), 0);
        c.due("the others are open", x.count(6), 1);
        TollsBack y = Check.realm(Realms.manyRoads(24, "toll7days8"));
        c.due("the last", y.close(23, true), 0);
        c.due("it alone", y.from(0), (1 << 23) - 1);
        c.says(7, "-2.");
        c.on(Realms::busy);
        c.stayAll("close(#, true)", (z, r) -> z.close(r, true), -2, -1, 3, 24, 32, 33, MIN, MAX);
        c.stayAll("close(#, false)", (z, r) -> z.close(r, false), -2, -1, 3, 33, MIN, MAX);
    }

    private void when() {
        c.says(8, "The first DAY from one on (of 360) on which a ROAD's toll is least.");
        TollsBack x = Realms.busy();
        dueWhen(x, 0, 0, 0, 89, 89, 90, 270, 269, 270, 270, 270, 359, 359, 360, 360, 450, 630);
        dueWhen(x, 1, 0, 0, 89, 89, 90, 90, 270, 270, 99999, 99999);
        dueWhen(x, 2, 0, 90, 89, 90, 90, 90, 269, 269, 270, 450, 359, 450, 360, 450, 99999, 100170);
        TollsBack y = Check.realm("towns 2;summer 359 to 359;road 0 to 1 toll 1 summer 0 days 1;"
                + "road 0 to 1 toll 0 summer 1 days 1;");
        dueWhen(y, 0, 0, 359, 358, 359, 359, 359, 360, 719);
        dueWhen(y, 1, 358, 358, 359, 360, 360, 360);
        TollsBack z = Check.realm("towns 2;summer 0 to 358;road 0 to 1 toll 1 summer 2 days 1;");
        dueWhen(z, 0, 0, 359, 359, 359, 360, 719);
        TollsBack w = Check.realm("towns 2;summer 0 to 359;road 0 to 1 toll 1 summer 2 days 1;"
                + "road 0 to 1 toll 2 summer 1 days 1;");
        dueWhen(w, 0, 0, 0, 359, 359);
        dueWhen(w, 1, 0, 0, 359, 359);
        c.says(8, "-2: the ROAD; -3: the DAY is not 0 to 99999.");
        c.on(Realms::busy);
        c.stayAll("when(#, 0)", (v, r) -> v.when(r, 0), -2, -1, 3, MIN, MAX);
        c.stayAll("when(#, -1)", (v, r) -> v.when(r, -1), -2, -1, 3);
        c.stayAll("when(0, #)", (v, day) -> v.when(0, day), -3, -1, 100000, MIN, MAX);
        c.stayAll("when(1, #)", (v, day) -> v.when(1, day), -3, -1, 100000);
        c.stayAll("when(1, #) taken", (v, day) -> v.when(1, day) - day, 0, 0, 99999);
    }

    private void dueWhen(TollsBack x, int r, int... daysAndWhens) {
        for (int i = 0; i < daysAndWhens.length; i += 2) {
            c.due("when(" + r + ", " + daysAndWhens[i] + ")", x.when(r, daysAndWhens[i]), daysAndWhens[i + 1]);
        }
    }

    private void summer() {
        c.says(Check.TERMS, "On a DAY it is summer, if DAY modulo 360 is in it.");
        c.says(9, "Whether it is summer on a DAY: 1, 0.");
        TollsBack x = Realms.busy();
        for (int year = 0; year < 5; year++) {
            int[] days = {0, 89, 90, 269, 270, 359};
            for (int day : days) {
                c.due("summer(" + (360 * year + day) + ")", x.summer(360 * year + day), day == 90 || day == 269 ? 1 : 0);
            }
        }
        c.due("the last DAY: 127", x.summer(MAX), 1);
        c.due("38 days ahead of it: 89", x.summer(MAX - 38), 0);
        c.due("37 days ahead of it: 90", x.summer(MAX - 37), 1);
        c.says(9, "-3: below 0.");
        c.on(Realms::busy);
        c.stayAll("summer(#)", TollsBack::summer, -3, -1, -100, -360, MIN);
        c.stays("summer(0)", y -> y.summer(0), 0);
    }
}

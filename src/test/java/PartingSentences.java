/** Sentences of parts 1 and 2 on partings, laws and measures, and of promises 9 to 14. */
final class PartingSentences {
    private static final String[] LAW_HEADS = {"1 a district has no place (the least such);",
        "2 a district does not HANG TOGETHER (the least such);", "3 the SIZE of one does not FIT (the least such);",
        "4 a KEPT town is CUT (the least such);", "5 a FIXED place is elsewhere (the least such);",
        "6 more than CUTS towns are CUT (the one that is one too many, towns rising)."};

    private final Sentences s;

    PartingSentences(Sentences s) {
        this.s = s;
    }

    void test() {
        cutTowns();
        hangingTogether();
        fittingSizes();
        orderOfLaws();
        eachLaw();
        edgeAndTowns();
        seats();
        wasted();
        apart();
        putAndAt();
        lawfulAndWhy();
        measure();
        district();
    }

    private static DistrictCutter line(int places, int k, int tolerance) {
        DistrictCutter x = Lands.line(new int[places]);
        x.law(k, tolerance);
        return x;
    }

    private static String puts(int... districts) {
        StringBuilder calls = new StringBuilder();
        for (int p = 0; p < districts.length; p++) {
            calls.append("put(").append(p).append(", ").append(districts[p]).append(");");
        }
        return calls.toString();
    }

    private void cutTowns() {
        s.ofTerms("A town is CUT if its places are in two districts or more.");
        String three = "place(0, 0, 0, 1, 4); place(0, 0, 0, 1, 4); place(0, 0, 0, 1, 4); law(3, 0);";
        s.run(three + "measure(1) = 0;" + puts(2, 2, 2) + "measure(1) = 0;" + puts(0, 0, 1) + "measure(1) = 1;"
            + puts(1, 0, 0) + "measure(1) = 1;" + puts(0, 1, 0) + "measure(1) = 1;" + puts(0, 1, 2) + "measure(1) = 1");
        // towns without places, and of one place, are whole
        s.run("place(0, 0, 0, 1, 4); place(0, 0, 0, 1, 5); keep(3, 1); keep(4, 1); keep(5, 1); cuts(0); put(0, 1); measure(1) = 0;"
            + "lawful() = 0");
    }

    private void hangingTogether() {
        s.ofTerms("A district HANGS TOGETHER if one comes from each of its places to each by BORDERS within it.");
        DistrictCutter x = line(3, 2, 0);
        s.run(x, "district(0, 6) = 1; put(1, 1); district(0, 6) = 0; district(1, 6) = 1; border(0, 2, 1); district(0, 6) = 1");
        s.run("place(0, 0, 0, 1, 0); district(0, 6) = 1; place(0, 0, 0, 1, 0); district(0, 6) = 0; border(1, 0, 1);"
            + "district(0, 6) = 1");
        // all 30 places, the way to the last one through every other, up and down
        DistrictCutter longest = new DistrictCutter();
        for (int p = 0; p < 30; p++) {
            longest.place(0, 0, 0, 1, 0);
        }
        for (int p = 0; p < 29; p++) {
            longest.border(zigzag(p), zigzag(p + 1), 1);
            s.due("hangs together by " + (p + 1) + " borders", longest.district(0, 6), p == 28 ? 1 : 0);
        }
        s.run(longest, "district(0, 6) = 1; put(29, 1); district(0, 6) = 0; put(29, 0); put(15, 1); district(0, 6) = 1;"
            + "put(14, 1); district(0, 6) = 1");
    }

    /** 0, 29, 1, 28, .. 14, 15. */
    private static int zigzag(int i) {
        return i % 2 == 0 ? i / 2 : 29 - i / 2;
    }

    private void fittingSizes() {
        s.ofTerms("Its SIZE FITS if K times its PEOPLE is off from the PEOPLE of all places by at most t parts of a thousand of "
            + "these (1000 times the difference is at most t times all).");
        // too few: 24 of 30 is just 200 parts off, the others less; too many: 36 of 30
        sizes(200, 0, 8, 11, 11);
        sizes(199, 3, 8, 11, 11);
        sizes(200, 0, 9, 9, 12);
        sizes(199, 3, 9, 9, 12);
        // not a whole part of a thousand: 1 of 3 is 333 and a third
        sizes(334, 0, 4, 3, 2);
        sizes(333, 3, 4, 3, 2);
        sizes(0, 0, 10, 10, 10);
        sizes(0, 3, 1000, 1000, 999);
        sizes(0, 0, 0, 0, 0);
        sizes(1000, 0, 0, 1, 1);
        sizes(1000, 3, 0, 0, 1);
        sizes(1000, 0, 500, 1000, 0);
        sizes(999, 3, 500, 1000, 0);
        greatestSizes();
    }

    private void sizes(int tolerance, int law, int... people) {
        DistrictCutter x = Lands.line(people);
        x.law(people.length, tolerance);
        for (int p = 0; p < people.length; p++) {
            x.put(p, p);
        }
        s.due("t = " + tolerance + ", people " + java.util.Arrays.toString(people), x.lawful(), law);
    }

    /** 30 places of 1000 people, 25 of them in one district of six: 1000 times the difference is 120 million. */
    private void greatestSizes() {
        int[] people = new int[30];
        java.util.Arrays.fill(people, 1000);
        DistrictCutter x = Lands.line(people);
        x.law(6, 1000);
        for (int p = 25; p < 30; p++) {
            x.put(p, p - 24);
        }
        s.run(x, "lawful() = 3; why(0) = 0; district(0, 1) = 25000; measure(6) = 24000");
        x.law(2, 1000);
        s.run(x, "put(29, 1); lawful() = 0; put(29, 0); put(0, 1); lawful() = 0; law(2, 933); put(29, 1); lawful() = 3;"
            + "law(2, 934); put(29, 1); lawful() = 0");
    }

    /** One land breaks all laws; what is behind the first one is seen as the first one is mended. */
    private void orderOfLaws() {
        s.ofTerms("A PARTING is LAWFUL if none of these holds, in this order, of each the first:");
        DistrictCutter x = new DistrictCutter();
        for (int p = 0; p < 6; p++) {
            x.place(p < 3 ? 10 : 20, 0, 0, 1, p % 3);
        }
        for (int p = 0; p < 5; p++) {
            x.border(p, p + 1, 1);
        }
        s.run(x, "law(3, 100); keep(2, 1); fix(5, 0); cuts(0);" + puts(0, 1, 0, 1, 1, 0) + "lawful() = 1; why(0) = 2;"
            + puts(0, 1, 2, 1, 2, 2) + "lawful() = 2; why(0) = 1;" + puts(0, 0, 1, 1, 2, 2) + "lawful() = 3; why(0) = 0;"
            + "law(3, 334); fix(5, 0);" + puts(0, 0, 1, 1, 2, 2) + "lawful() = 4; why(0) = 2; keep(2, 0) = 1; lawful() = 5;"
            + "why(0) = 5; fix(5, 2) = 0; lawful() = 6; why(0) = 0; cuts(3) = 0; lawful() = 0; why(0) = NONE");
    }

    private void eachLaw() {
        s.ofTerms(LAW_HEADS[0]);
        s.run(line(3, 6, 1000), puts(0, 1, 0) + "lawful() = 1; why(0) = 2;" + puts(5, 5, 5) + "lawful() = 1; why(0) = 0;"
            + puts(0, 1, 5) + "lawful() = 1; why(0) = 2");
        s.run(line(6, 6, 1000), puts(0, 1, 2, 3, 4, 4) + "lawful() = 1; why(0) = 5; put(5, 5); lawful() = 0");
        s.ofTerms(LAW_HEADS[1]);
        s.run(line(6, 2, 1000), puts(0, 1, 0, 1, 1, 1) + "lawful() = 2; why(0) = 0;" + puts(0, 0, 1, 0, 1, 1) + "why(0) = 0;"
            + "border(1, 3, 1); why(0) = 1; border(2, 5, 1); lawful() = 0");
        s.ofTerms(LAW_HEADS[2]);
        s.run(Lands.line(new int[] {10, 9, 11}), "law(3, 0);" + puts(0, 1, 2) + "lawful() = 3; why(0) = 1;"
            + "people(1, 10); why(0) = 0; people(2, 10); lawful() = 0");
        s.ofTerms(LAW_HEADS[3]);
        DistrictCutter towns = townsAcross();
        s.run(towns, "lawful() = 0; keep(9, 1); lawful() = 4; why(0) = 9; keep(4, 1); why(0) = 4; keep(0, 1); why(0) = 0;"
            + "keep(0, 0); keep(4, 0); keep(9, 0); keep(5, 1); lawful() = 0");
        s.ofTerms(LAW_HEADS[4]);
        s.run(townsAcross(), "fix(5, 0); lawful() = 5; why(0) = 5; fix(0, 1); why(0) = 0; fix(0, 0); why(0) = 5; fix(5, 1);"
            + "lawful() = 0; fix(4, 0); why(0) = 4; fix(4, -1); lawful() = 0");
        s.run(Lands.line(new int[30]), puts(0) + "put(29, 1); lawful() = 0; fix(29, 0); lawful() = 5; why(0) = 29");
        s.ofTerms(LAW_HEADS[5]);
        s.run(townsAcross(), "cuts(3); lawful() = 0; cuts(2); lawful() = 6; why(0) = 9; cuts(1); why(0) = 4; cuts(0); why(0) = 0;"
            + puts(1, 1, 1, 1, 1, 1) + "put(0, 0); lawful() = 6; why(0) = 9; cuts(1); lawful() = 0");
    }

    /** Towns 9, 4, 0 | 0, 4, 9 in a line, three places in each district. */
    private static DistrictCutter townsAcross() {
        DistrictCutter x = new DistrictCutter();
        int[] towns = {9, 4, 0, 0, 4, 9};
        for (int p = 0; p < 6; p++) {
            x.place(0, 0, 0, 1, towns[p]);
        }
        for (int p = 0; p < 6; p++) {
            x.border(p, (p + 1) % 6, 1);
            x.put(p, p / 3);
        }
        return x;
    }

    private void edgeAndTowns() {
        s.ofTerms("MEASURES of a PARTING: 0 EDGE: the LENGTHS of all BORDERS between places of two districts;");
        s.run("measure(0) = 0");
        s.run(Lands.line(new int[] {0, 0, 0}, 100, 1), "measure(0) = 0; put(0, 1); measure(0) = 100; put(2, 1); measure(0) = 101;"
            + "put(1, 1); measure(0) = 0");
        DistrictCutter most = longBorders();
        s.run(most, "land(1) = 100; measure(0) = 10000; district(0, 5) = 10000; district(1, 5) = 10000; district(2, 5) = 0");
        s.ofTerms("1 towns that are CUT;");
        s.run("measure(1) = 0");
        DistrictCutter x = Lands.line(new int[20]);
        s.run(x, "measure(1) = 0; put(10, 1); measure(1) = 1");
        for (int p = 11; p < 20; p++) {
            x.put(p, 1);
        }
        s.run(x, "measure(1) = 10; put(0, 1); measure(1) = 9");
    }

    /** Ten places of district 0 with ten of district 1: 100 borders of length 100. */
    private static DistrictCutter longBorders() {
        DistrictCutter x = new DistrictCutter();
        x.law(3, 1000);
        for (int p = 0; p < 20; p++) {
            x.place(0, 0, 0, 1, 0);
            x.put(p, p / 10);
        }
        for (int p = 0; p < 10; p++) {
            for (int q = 10; q < 20; q++) {
                x.border(p, q, 100);
            }
        }
        return x;
    }

    private void seats() {
        s.ofTerms("2, 3 SEATS of party 0, 1: in how many districts it has more VOTES than the other one;");
        s.run("measure(2) = 0; measure(3) = 0");
        s.run("place(0, 0, 0, 1, 0); measure(2) = 0; measure(3) = 0; place(0, 500, 500, 1, 0); put(1, 1); measure(2) = 0;"
            + "measure(3) = 0; place(0, 1, 0, 1, 0); put(2, 1); measure(2) = 1; measure(3) = 0; place(0, 0, 1, 1, 0);"
            + "measure(2) = 1; measure(3) = 1; put(3, 1); measure(2) = 0; measure(3) = 0");
        DistrictCutter x = new DistrictCutter();
        x.law(6, 1000);
        for (int p = 0; p < 6; p++) {
            x.place(0, 1000, 999, 1, 0);
            x.put(p, p);
        }
        s.run(x, "measure(2) = 6; measure(3) = 0");
    }

    private void wasted() {
        s.ofTerms("4, 5 WASTED of party 0, 1: over all districts: all its VOTES where it has not more; where it has more, those "
            + "beyond half of both's (the half's rest away) and one;");
        int[][] votes = {{0, 0, 0, 0}, {1, 0, 0, 0}, {0, 1, 0, 0}, {1, 1, 1, 1}, {2, 0, 0, 0}, {3, 0, 1, 0}, {2, 1, 0, 1},
            {0, 1000, 0, 499}, {1000, 999, 0, 999}, {1000, 1000, 1000, 1000}, {4, 3, 0, 3}, {3, 4, 3, 0}, {5, 3, 0, 3}};
        for (int[] v : votes) {
            String place = "place(0, " + v[0] + ", " + v[1] + ", 1, 0);";
            s.run(place + "measure(4) = " + v[2] + "; measure(5) = " + v[3]);
        }
        // over two districts: 3 : 0 and 0 : 3 each waste one of three; together 3 : 3 wastes all
        s.run("place(0, 3, 0, 1, 0); place(0, 0, 3, 1, 0); put(1, 1); measure(4) = 1; measure(5) = 1; put(1, 0);"
            + "measure(4) = 3; measure(5) = 3");
        DistrictCutter x = new DistrictCutter();
        for (int p = 0; p < 30; p++) {
            x.place(0, 1000, 1000, 1, 0);
        }
        s.run(x, "measure(4) = 30000; measure(5) = 30000; measure(2) = 0");
    }

    private void apart() {
        s.ofTerms("6 the greatest PEOPLE of a district less the least.");
        s.run("measure(6) = 0; place(7, 0, 0, 1, 0); measure(6) = 7; law(1, 0); measure(6) = 0");
        DistrictCutter x = new DistrictCutter();
        for (int p = 0; p < 30; p++) {
            x.place(1000, 0, 0, 1, 0);
        }
        s.run(x, "measure(6) = 30000; law(6, 0); measure(6) = 30000; put(0, 5); measure(6) = 29000; law(1, 0); measure(6) = 0");
    }

    private void putAndAt() {
        String making = "place(0, 0, 0, 1, 0); place(0, 0, 0, 1, 0); law(6, 0);";
        s.of("Promise 9: put", "A place comes into a district: the one where it was.");
        s.run(making + "put(1, 5) = 0; put(1, 5) = 5; at(1) = 5; at(0) = 0; put(1, 0) = 5; at(1) = 0; district(5, 0) = 0");
        s.of("Promise 9: put", "NONE.");
        s.within(making, "put(?, 3)", 0, 1);
        s.within(making, "put(1, ?)", 0, 5);
        s.within(making + "law(1, 0)", "put(1, ?)", 0, 0);
        s.run(making + "put(0, 4); put(0, 6) = NONE; put(0, -1) = NONE; put(2, 0) = NONE; at(0) = 4; district(4, 0) = 1");
        s.of("Promise 10: at", "The district of a place.");
        s.run(making + "at(0) = 0; put(0, 5); at(0) = 5; at(1) = 0");
        s.of("Promise 10: at", "NONE.");
        s.within(making, "at(?)", 0, 1);
        s.run("at(0) = NONE; at(-1) = NONE");
        s.run(Lands.line(new int[30]), "at(29) = 0; at(30) = NONE; at(31) = NONE; at(MAX) = NONE");
    }

    private void lawfulAndWhy() {
        s.of("Promise 11: lawful", "0: THE PARTING is LAWFUL; else the number of the first law (1 .. 6) that is broken.");
        s.run("place(0, 0, 0, 1, 0); lawful() = 1; law(1, 0); lawful() = 0; place(5, 0, 0, 1, 0); lawful() = 2; law(2, 0);"
            + "put(1, 1); lawful() = 3; people(0, 5); lawful() = 0; keep(0, 1); lawful() = 4; keep(0, 0); fix(0, 1); cuts(0);"
            + "lawful() = 5; fix(0, -1); lawful() = 6; cuts(1); lawful() = 0");
        s.of("Promise 11: lawful", "EMPTY.");
        s.run("lawful() = EMPTY; law(1, 1000); lawful() = EMPTY; place(0, 0, 0, 1, 0); lawful() = 0");
        s.of("Promise 12: why", "By which lawful() would answer above 0 now: the district, town or place;");
        s.run(townsAcross(), "put(5, 0); put(3, 0); put(4, 0); lawful() = 1; why(0) = 1; put(3, 1); put(5, 1); lawful() = 2;"
            + "why(0) = 0; put(4, 1); people(1, 9); lawful() = 3; why(0) = 0; people(1, 0); keep(4, 1); why(0) = 4; keep(4, 0);"
            + "fix(3, 0); why(0) = 3; fix(3, -1); cuts(2); why(0) = 9; cuts(3); why(0) = NONE");
        s.of("Promise 12: why", "of 2 what = 1, 2: the least place of that district, the least one of it to which no way leads "
            + "from that one.");
        s.run(line(6, 2, 1000), puts(1, 0, 0, 1, 0, 0) + "why(0) = 0; why(1) = 1; why(2) = 4; border(1, 4, 1); why(0) = 1;"
            + "why(1) = 0; why(2) = 3; border(0, 3, 1); why(0) = NONE; why(1) = NONE; why(2) = NONE");
        s.run(line(30, 1, 0), "place(0, 0, 0, 1, 0) = FULL; lawful() = 0");
        s.run(line(29, 1, 0), "place(0, 0, 0, 1, 0) = 29; why(0) = 0; why(1) = 0; why(2) = 29; border(29, 0, 1); why(2) = NONE");
        s.of("Promise 12: why", "NONE: it is LAWFUL, EMPTY, or what is not 0 (for 2: 0 .. 2).");
        s.run("why(0) = NONE; why(1) = NONE; why(2) = NONE; why(-1) = NONE");
        s.run(line(2, 1, 0), "lawful() = 0; why(0) = NONE; why(1) = NONE; why(2) = NONE");
        s.run(line(3, 2, 0), "put(1, 1); lawful() = 2; why(0) = 0; why(2) = 2; why(3) = NONE; why(-1) = NONE; why(MIN) = NONE;"
            + "why(MAX) = NONE");
        whatOfOtherLaws();
    }

    /** Broken by laws 1, 3, 4, 5, 6 in turn: only what = 0 is told. */
    private void whatOfOtherLaws() {
        DistrictCutter x = Script.made("place(5, 0, 0, 1, 0); place(6, 0, 0, 1, 0)");
        String[] breaking = {"", "law(2, 0); put(1, 1)", "people(0, 6); keep(0, 1)", "keep(0, 0); fix(1, 0)",
            "fix(1, -1); cuts(0)"};
        int[] laws = {1, 3, 4, 5, 6};
        int[] culprits = {1, 0, 0, 1, 0};
        for (int i = 0; i < laws.length; i++) {
            s.run(x, breaking[i] + "; lawful() = " + laws[i] + "; why(0) = " + culprits[i] + "; why(1) = NONE; why(2) = NONE;"
                + "why(3) = NONE; why(-1) = NONE; why(MIN) = NONE; why(MAX) = NONE");
        }
    }

    private void measure() {
        s.of("Promise 13: measure", "A MEASURE of THE PARTING.");
        s.run("place(5, 9, 2, 1, 0); place(6, 2, 3, 1, 0); border(0, 1, 8); measure(0) = 0; measure(1) = 0; measure(2) = 1;"
            + "measure(3) = 0; measure(4) = 2; measure(5) = 5; measure(6) = 11; put(1, 1); measure(0) = 8; measure(1) = 1;"
            + "measure(2) = 1; measure(3) = 1; measure(4) = 5; measure(5) = 2; measure(6) = 1");
        s.of("Promise 13: measure", "NONE: no such one.");
        s.within("", "measure(?)", 0, 6);
        s.within("place(5, 9, 2, 1, 0)", "measure(?)", 0, 6);
    }

    private void district() {
        String section = "Promise 14: district";
        s.of(section, "Of a district: 0 places, 1 PEOPLE, 2, 3 VOTES, 4 AREA, 5 the LENGTHS of its BORDERS with others,");
        DistrictCutter x = new DistrictCutter();
        for (int p = 0; p < 30; p++) {
            x.place(1000, 1000, 999, 100, 0);
        }
        s.run(x, "district(0, 0) = 30; district(0, 1) = 30000; district(0, 2) = 30000; district(0, 3) = 29970;"
            + "district(0, 4) = 3000; district(0, 5) = 0; district(1, 0) = 0; district(1, 1) = 0; district(1, 2) = 0;"
            + "district(1, 3) = 0; district(1, 4) = 0; district(1, 5) = 0; put(29, 1); district(0, 0) = 29; district(1, 4) = 100;"
            + "border(29, 28, 7); border(28, 27, 9); district(0, 5) = 7; district(1, 5) = 7");
        s.of(section, "6 whether it HANGS TOGETHER (1, 0; without places 1),");
        s.run("district(0, 6) = 1; district(1, 6) = 1; place(0, 0, 0, 1, 0); district(0, 6) = 1; district(1, 6) = 1;"
            + "place(0, 0, 0, 1, 0); district(0, 6) = 0; district(1, 6) = 1; put(1, 1); district(0, 6) = 1; put(0, 1);"
            + "district(0, 6) = 1; district(1, 6) = 0");
        s.of(section, "7 the least place (-1 without).");
        s.run("district(0, 7) = -1; district(1, 7) = -1");
        s.run(x, "district(0, 7) = 0; district(1, 7) = 29; put(3, 1); district(1, 7) = 3; put(0, 1); district(0, 7) = 1;"
            + "law(2, 0); district(1, 7) = -1");
        s.of(section, "NONE (7 may be -1, too).");
        for (int k = 1; k <= 6; k++) {
            s.within("place(0, 0, 0, 1, 0); law(" + k + ", 0)", "district(?, 0)", 0, k - 1);
        }
        s.within("place(0, 0, 0, 1, 0)", "district(0, ?)", 0, 7);
        s.run("district(2, 7) = NONE; district(-1, 6) = NONE; district(0, 8) = NONE; district(0, -1) = NONE");
    }
}

/** Sentences of part 1 on the land and the law, and of promises 1 to 8 and 15. */
final class LandSentences {
    private static final String TWO = "place(1, 0, 0, 1, 0); place(1, 0, 0, 1, 1);";

    private final Sentences s;

    LandSentences(Sentences s) {
        this.s = s;
    }

    void test() {
        newObject();
        placesAreNumbered();
        numbersOfPlaces();
        bordersOfTerms();
        lawAtFirst();
        partingAtFirst();
        place();
        border();
        law();
        keep();
        cuts();
        fix();
        people();
        land();
    }

    private void newObject() {
        s.of("Promise 1: A new object", "No places.");
        s.run("land(0) = 0; land(1) = 0; land(2) = 0; at(0) = NONE; put(0, 0) = NONE; fix(0, 0) = NONE; fix(0, -1) = NONE;"
            + "people(0, 0) = NONE; border(0, 1, 1) = NONE; district(0, 0) = 0; lawful() = EMPTY; place(0, 0, 0, 1, 0) = 0");
        s.ofTerms("All memory is the class's own.");
        DistrictCutter one = Script.made(TWO + "law(3, 7); put(1, 2); keep(4, 1); cuts(1)");
        DistrictCutter other = Script.made("place(5, 6, 7, 8, 9)");
        s.run(other, "land(0) = 1; land(3) = 2; land(4) = 100; land(6) = 10; keep(4, 0) = 0; at(1) = NONE");
        s.run(one, "land(0) = 2; land(2) = 2; land(3) = 3; at(1) = 2; keep(4, 1) = 1; place(1, 0, 0, 1, 0) = 2");
        s.run(other, "place(1, 0, 0, 1, 0) = 1");
    }

    private void placesAreNumbered() {
        s.of("What it is", "THE LAND has PLACES 0 ..");
        s.ofTerms("29, as they were made,");
        DistrictCutter x = new DistrictCutter();
        for (int p = 0; p < 30; p++) {
            s.due("place as number " + p, x.place(p, 0, 0, 1, 0), p);
        }
        for (int p = 0; p < 30; p++) {
            s.due("the people of place " + p, x.people(p, 0), p);
        }
        s.run(x, "at(29) = 0; at(30) = NONE; put(29, 1) = 0; put(30, 1) = NONE; land(0) = 30");
    }

    private void numbersOfPlaces() {
        s.ofTerms("each with PEOPLE (0 .. 1000),");
        s.within("", "place(?, 0, 0, 1, 0)", 0, 1000);
        s.run("place(0, 0, 0, 1, 0) = 0; district(0, 1) = 0; place(1000, 0, 0, 1, 0) = 1; district(0, 1) = 1000");
        s.ofTerms("VOTES for two parties 0, 1 (0 .. 1000 each),");
        s.within("", "place(0, ?, 0, 1, 0)", 0, 1000);
        s.within("", "place(0, 0, ?, 1, 0)", 0, 1000);
        s.run("place(0, 1000, 0, 1, 0) = 0; district(0, 2) = 1000; district(0, 3) = 0;"
            + "place(0, 0, 1000, 1, 0) = 1; district(0, 2) = 1000; district(0, 3) = 1000");
        s.ofTerms("AREA (1 .. 100)");
        s.within("", "place(0, 0, 0, ?, 0)", 1, 100);
        s.run("place(0, 0, 0, 1, 0) = 0; district(0, 4) = 1; place(0, 0, 0, 100, 0) = 1; district(0, 4) = 101");
        s.ofTerms("and a TOWN (0 .. 9);");
        s.within("", "place(0, 0, 0, 1, ?)", 0, 9);
        for (int town = 0; town < 10; town += 9) {
            String one = "place(0, 0, 0, 1, " + town + ");";
            s.run(Script.made(one + one + "put(1, 1)"), "measure(1) = 1");
        }
        s.run(Script.made("place(0, 0, 0, 1, 0); place(0, 0, 0, 1, 9); put(1, 1)"), "measure(1) = 0");
    }

    private void bordersOfTerms() {
        s.ofTerms("and BORDERS, each between two places that are NEIGHBOURS by it,");
        s.run(Script.made(TWO + "law(1, 0)"), "lawful() = 2; border(1, 0, 1) = 0; lawful() = 0");
        s.within(TWO, "border(?, 0, 1)", 1, 1);
        s.within(TWO, "border(1, ?, 1)", 0, 0);
        s.ofTerms("with a LENGTH (1 .. 100),");
        s.within(TWO, "border(0, 1, ?)", 1, 100);
        s.run(Script.made(TWO + "put(1, 1); border(0, 1, 100)"), "measure(0) = 100");
        s.run(Script.made(TWO + "put(1, 1); border(0, 1, 1)"), "measure(0) = 1");
        s.ofTerms("numbered from 0 on, as they were made.");
        DistrictCutter x = fullOfBorders();
        s.due("100 borders", x.land(1), 100);
    }

    /** Fifteen places and 100 borders, each told its number. */
    private DistrictCutter fullOfBorders() {
        DistrictCutter x = Lands.line(new int[15]);
        int made = 14;
        for (int p = 2; p < 15; p++) {
            for (int q = 0; q + 1 < p && made < 100; q++) {
                s.due("border as number " + made, x.border(p, q, 1), made);
                made++;
            }
        }
        return x;
    }

    private void lawAtFirst() {
        s.ofTerms("LAW: K districts (1 .. 6; 2 at first);");
        s.run("land(3) = 2; district(1, 0) = 0; district(2, 0) = NONE");
        s.within("", "law(?, 0)", 1, 6);
        s.ofTerms("TOLERANCE t (0 .. 1000; 100 at first);");
        s.run("land(4) = 100");
        // of 2000 people 900 are just 100 parts of a thousand off
        String sized = "place(900, 0, 0, 1, 0); place(999, 0, 0, 1, 0); place(101, 0, 0, 1, 0); border(1, 2, 1);";
        s.run(Script.made(sized + "put(1, 1); put(2, 1)"), "lawful() = 0; people(0, 899); people(2, 102); lawful() = 3");
        s.within("", "law(1, ?)", 0, 1000);
        s.ofTerms("a set of KEPT towns (none at first);");
        for (int town = 0; town < 10; town++) {
            s.run("keep(" + town + ", 0) = 0");
            String one = "place(1, 0, 0, 1, " + town + ");";
            s.run(Script.made(one + one + "put(1, 1)"), "lawful() = 0; keep(" + town + ", 1) = 0; lawful() = 4");
        }
        s.ofTerms("CUTS, how many towns may be cut (0 .. 10; 10 at first);");
        s.run("land(6) = 10; cuts(10) = 10");
        s.within("", "cuts(?)", 0, 10);
        DistrictCutter x = tenTownsCut();
        s.run(x, "measure(1) = 10; lawful() = 0; cuts(9) = 10; lawful() = 6; why(0) = 9; cuts(0); why(0) = 0");
        s.ofTerms("FIXED places, each with a district (none at first).");
        s.run(Script.made(TWO + "put(1, 1)"), "land(5) = 0; lawful() = 0; fix(0, -1) = -1; fix(1, -1) = -1");
    }

    /** Ten towns of two places each, one of them in either district. */
    private static DistrictCutter tenTownsCut() {
        DistrictCutter x = Lands.line(new int[20]);
        for (int p = 10; p < 20; p++) {
            x.put(p, 1);
        }
        return x;
    }

    private void partingAtFirst() {
        s.ofTerms("A PARTING gives each place a district 0 .. K - 1;");
        for (int k = 1; k <= 6; k++) {
            s.within(TWO + "law(" + k + ", 0)", "put(1, ?)", 0, k - 1);
            s.run(Script.made(TWO + "law(" + k + ", 0); put(1, " + (k - 1) + ")"), "at(1) = " + (k - 1));
        }
        s.ofTerms("THE PARTING is one, all in district 0 at first.");
        s.run(TWO + "at(0) = 0; at(1) = 0; district(0, 0) = 2; district(1, 0) = 0; lawful() = 1; why(0) = 1");
    }

    private void place() {
        s.of("Promise 2: place", "A new place, in district 0: its number.");
        s.run("place(7, 0, 0, 1, 0) = 0; at(0) = 0; put(0, 1) = 0; place(8, 0, 0, 1, 0) = 1; at(1) = 0; at(0) = 1;"
            + "law(6, 0) = 1; put(0, 5) = 0; put(1, 5) = 0; place(9, 0, 0, 1, 0) = 2; at(2) = 0; district(0, 1) = 9;"
            + "district(5, 1) = 15; land(2) = 24; fix(2, -1) = -1; district(0, 5) = 0");
        s.of("Promise 2: place", "NONE, FULL.");
        DistrictCutter x = Lands.line(new int[30]);
        s.run(x, "place(0, 0, 0, 1, 0) = FULL; place(1000, 1000, 1000, 100, 9) = FULL; land(0) = 30; land(2) = 0;"
            + "place(-1, 0, 0, 1, 0) = NONE; place(0, 1001, 0, 1, 0) = NONE; place(0, 0, -1, 1, 0) = NONE;"
            + "place(0, 0, 0, 0, 0) = NONE; place(0, 0, 0, 1, 10) = NONE; land(0) = 30");
        s.run(Lands.line(new int[29]), "place(0, 0, 0, 1, 0) = 29; place(0, 0, 0, 1, 0) = FULL");
        s.ofTerms("FULL (-2): 30 places, 100 borders;");
        s.due("FULL", DistrictCutter.FULL, -2);
        s.run(x, "place(0, 0, 0, 1, 0) = -2; border(0, 29, 1) = 29");
    }

    private void border() {
        s.of("Promise 3: border", "A new BORDER: its number.");
        s.run(TWO + "place(1, 0, 0, 1, 0); border(2, 0, 4) = 0; border(1, 0, 8) = 1; border(1, 2, 16) = 2; land(1) = 3;"
            + "put(0, 1) = 0; measure(0) = 12; put(1, 1) = 0; measure(0) = 20");
        s.of("Promise 3: border", "NONE (also if the places are one, or NEIGHBOURS already).");
        s.run(TWO + "border(0, 0, 1) = NONE; border(1, 1, 1) = NONE; land(1) = 0; border(0, 2, 1) = NONE;"
            + "border(2, 0, 1) = NONE; border(-1, 0, 1) = NONE; border(0, -1, 1) = NONE; border(MIN, MAX, 1) = NONE;"
            + "border(0, 1, 5) = 0; border(0, 1, 5) = NONE; border(1, 0, 5) = NONE; border(0, 1, 6) = NONE; land(1) = 1;"
            + "put(1, 1); measure(0) = 5");
        s.of("Promise 3: border", "FULL.");
        DistrictCutter x = fullOfBorders();
        s.run(x, "border(14, 12, 1) = FULL; border(12, 14, 100) = FULL; land(1) = 100; border(12, 14, 0) = NONE;"
            + "border(12, 14, 101) = NONE; border(12, 12, 1) = NONE; border(0, 1, 1) = NONE; border(0, 15, 1) = NONE;"
            + "district(0, 6) = 1; put(14, 1); district(1, 5) = 9");
    }

    private void law() {
        String making = TWO + "border(0, 1, 3); put(1, 1); fix(0, 0); fix(1, 1);";
        s.of("Promise 4: law", "K and t: 1.");
        s.run(Script.made(making), "law(1, 0) = 1; land(3) = 1; land(4) = 0; district(0, 0) = 2; district(1, 0) = NONE;"
            + "law(6, 1000) = 1; land(3) = 6; land(4) = 1000; district(5, 0) = 0; district(6, 0) = NONE");
        s.of("Promise 4: law", "All places are in district 0 then, none is FIXED.");
        s.run(Script.made(making), "law(2, 100) = 1; at(0) = 0; at(1) = 0; land(5) = 0; fix(0, -1) = -1; fix(1, -1) = -1;"
            + "district(1, 0) = 0; district(1, 7) = -1; lawful() = 1");
        s.run(Script.made(making + "keep(3, 1); cuts(4); law(1, 0)"), "keep(3, 1) = 1; land(6) = 4; land(1) = 1; land(2) = 2");
        s.of("Promise 4: law", "NONE.");
        s.within(making, "law(?, 100)", 1, 6);
        s.within(making, "law(2, ?)", 0, 1000);
        s.run(Script.made(making), "law(0, 5) = NONE; law(7, 5) = NONE; law(3, -1) = NONE; law(3, 1001) = NONE; land(3) = 2;"
            + "land(4) = 100; at(1) = 1; land(5) = 2");
    }

    private void keep() {
        s.of("Promise 5: keep", "A town is KEPT (1) or not (0) from now: what it was.");
        for (int town = 0; town < 10; town++) {
            String is = "keep(" + town + ", ";
            s.run(is + "1) = 0;" + is + "1) = 1;" + is + "0) = 1;" + is + "0) = 0;");
        }
        s.run("keep(0, 1) = 0; keep(9, 1) = 0; keep(0, 0) = 1; keep(9, 0) = 1");
        s.of("Promise 5: keep", "NONE.");
        s.within("", "keep(?, 1)", 0, 9);
        s.within("", "keep(3, ?)", 0, 1);
        s.run("keep(3, 1) = 0; keep(3, 2) = NONE; keep(3, -1) = NONE; keep(3, 1) = 1; keep(10, 0) = NONE; keep(-1, 0) = NONE");
    }

    private void cuts() {
        s.of("Promise 6: cuts", "CUTS become n: what they were.");
        s.run("cuts(0) = 10; land(6) = 0; cuts(10) = 0; land(6) = 10; cuts(3) = 10; cuts(3) = 3");
        s.of("Promise 6: cuts", "NONE.");
        s.within("", "cuts(?)", 0, 10);
        s.run("cuts(4); cuts(-1) = NONE; cuts(11) = NONE; land(6) = 4");
    }

    private void fix() {
        s.of("Promise 7: fix", "A place is FIXED in a district, or not any more (-1): what it was.");
        s.run(TWO + "law(6, 1000); fix(1, 0) = -1; fix(1, 5) = 0; fix(1, 5) = 5; land(5) = 1; fix(1, -1) = 5; land(5) = 0;"
            + "fix(1, -1) = -1; fix(0, 5) = -1; at(0) = 0; at(1) = 0");
        s.of("Promise 7: fix", "NONE.");
        for (int k = 1; k <= 6; k += 5) {
            String making = TWO + "law(" + k + ", 0); fix(0, 0); fix(1, 0);";
            s.within(making, "fix(?, 0)", 0, 1);
            s.within(making, "fix(1, ?)", -1, k - 1);
            s.run(Script.made(making), "fix(0, " + k + ") = NONE; fix(0, -2) = NONE; fix(2, -1) = NONE; land(5) = 2;"
                + "fix(0, 0) = 0; fix(1, 0) = 0");
        }
    }

    private void people() {
        s.of("Promise 8: people", "PEOPLE of a place become v: what they were.");
        s.run("place(7, 0, 0, 1, 0); place(8, 0, 0, 1, 0); people(0, 1000) = 7; land(2) = 1008; people(0, 0) = 1000;"
            + "land(2) = 8; district(0, 1) = 8; put(1, 1); district(1, 1) = 8; lawful() = 3; people(0, 8) = 0; lawful() = 0;"
            + "people(1, 8) = 8; measure(6) = 0");
        s.of("Promise 8: people", "NONE.");
        s.within(TWO, "people(?, 5)", 0, 1);
        s.within(TWO, "people(1, ?)", 0, 1000);
        s.run(TWO + "people(1, 1001) = NONE; people(1, -1) = NONE; people(2, 1) = NONE; land(2) = 2; people(1, 1) = 1");
    }

    private void land() {
        s.of("Promise 15: land",
            "Of the land: 0 places, 1 BORDERS, 2 PEOPLE, 3 K, 4 t, 5 how many places are FIXED, 6 CUTS.");
        s.run("land(0) = 0; land(1) = 0; land(2) = 0; land(3) = 2; land(4) = 100; land(5) = 0; land(6) = 10");
        DistrictCutter x = Lands.full(15, false);
        for (int p = 0; p < 15; p++) {
            x.place(1000, 0, 0, 1, 0);
            x.people(p, 1000);
        }
        x.law(6, 1000);
        for (int p = 0; p < 30; p++) {
            x.fix(p, p % 6);
        }
        s.run(x, "land(0) = 30; land(1) = 100; land(2) = 30000; land(3) = 6; land(4) = 1000; land(5) = 30; land(6) = 10");
        s.of("Promise 15: land", "NONE.");
        s.within("", "land(?)", 0, 6);
    }
}

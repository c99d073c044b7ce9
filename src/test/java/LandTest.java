/** Promises 1 to 8 and 15: the land and the law. */
public final class LandTest {
    private static final Check check = new Check();
    private static final int NONE = -1;
    private static final int FULL = -2;

    public static void main(String[] args) {
        newObject();
        places();
        borders();
        law();
        keep();
        cuts();
        fix();
        people();
        land();
        check.end("LandTest");
    }

    private static void newObject() {
        DistrictCutter x = new DistrictCutter();
        int[] due = {0, 0, 0, 2, 100, 0, 10};
        for (int what = 0; what < due.length; what++) {
            check.due("new: land(" + what + ")", x.land(what), due[what]);
        }
        check.due("new: at(0)", x.at(0), NONE);
        check.due("new: put(0, 0)", x.put(0, 0), NONE);
        check.due("new: fix(0, 0)", x.fix(0, 0), NONE);
        check.due("new: people(0, 0)", x.people(0, 0), NONE);
        check.due("new: border(0, 1, 1)", x.border(0, 1, 1), NONE);
        check.due("new: seen(0)", x.seen(0), NONE);
        for (int town = 0; town < 10; town++) {
            check.due("new: keep", x.keep(town, 0), 0);
        }
        check.due("new: lawful()", x.lawful(), -5);
        check.due("new: why(0)", x.why(0), NONE);
        check.due("new: district(1, 7)", x.district(1, 7), -1);
        check.due("new: district(1, 6)", x.district(1, 6), 1);
        for (int m = 0; m < 7; m++) {
            check.due("new: measure", x.measure(m), 0);
        }
        check.due("another object is its own", new DistrictCutter().place(0, 0, 0, 1, 0), 0);
    }

    private static void places() {
        DistrictCutter x = new DistrictCutter();
        int[][] wrong = {{-1, 0, 0, 1, 0}, {1001, 0, 0, 1, 0}, {0, -1, 0, 1, 0}, {0, 1001, 0, 1, 0}, {0, 0, -1, 1, 0},
            {0, 0, 1001, 1, 0}, {0, 0, 0, 0, 0}, {0, 0, 0, 101, 0}, {0, 0, 0, 1, -1}, {0, 0, 0, 1, 10},
            {Integer.MIN_VALUE, 0, 0, 1, 0}, {0, 0, 0, Integer.MAX_VALUE, 0}};
        for (int[] w : wrong) {
            check.due("place as not said", x.place(w[0], w[1], w[2], w[3], w[4]), NONE);
        }
        check.due("nothing made", x.land(0), 0);
        check.due("the least", x.place(0, 0, 0, 1, 0), 0);
        check.due("the greatest", x.place(1000, 1000, 1000, 100, 9), 1);
        check.due("in district 0", x.at(1), 0);
        check.due("people", x.district(0, 1), 1000);
        check.due("votes 0", x.district(0, 2), 1000);
        check.due("votes 1", x.district(0, 3), 1000);
        check.due("area", x.district(0, 4), 101);
        for (int p = 2; p < 30; p++) {
            check.due("place", x.place(p, 0, 0, 1, 0), p);
        }
        check.due("NONE ahead of FULL", x.place(0, 0, 0, 1, 10), NONE);
        check.due("31st place", x.place(0, 0, 0, 1, 0), FULL);
        check.due("30 places", x.land(0), 30);
        check.due("all in district 0", x.district(0, 0), 30);
        check.due("areas of 30 places", x.district(0, 4), 1 + 100 + 28);
    }

    private static void borders() {
        DistrictCutter x = new DistrictCutter();
        for (int p = 0; p < 15; p++) {
            x.place(1, 0, 0, 1, 0);
        }
        int[][] wrong = {{0, 0, 1}, {-1, 0, 1}, {0, -1, 1}, {15, 0, 1}, {0, 15, 1}, {0, 1, 0}, {0, 1, 101},
            {Integer.MAX_VALUE, 0, 1}, {0, Integer.MIN_VALUE, 1}, {0, 1, -5}};
        for (int[] w : wrong) {
            check.due("border as not said", x.border(w[0], w[1], w[2]), NONE);
        }
        check.due("border(1, 0, 100)", x.border(1, 0, 100), 0);
        check.due("neighbours already", x.border(1, 0, 5), NONE);
        check.due("neighbours already, turned", x.border(0, 1, 5), NONE);
        check.due("one border", x.land(1), 1);
        x.put(0, 1);
        check.due("its length", x.measure(0), 100);
        int made = 1;
        for (int p = 2; p < 15; p++) {
            for (int q = 0; q < p && made < 100; q++) {
                check.due("border", x.border(q, p, 1), made);
                made++;
            }
        }
        check.due("NONE ahead of FULL, neighbours", x.border(0, 1, 1), NONE);
        check.due("NONE ahead of FULL, length", x.border(13, 14, 0), NONE);
        check.due("101st border", x.border(13, 14, 1), FULL);
        check.due("100 borders", x.land(1), 100);
        check.due("the edge of place 0: 100 and thirteen of 1", x.measure(0), 100 + 13);
        check.due("told from district 1", x.district(1, 5), 100 + 13);
    }

    private static void law() {
        DistrictCutter x = Lands.line(new int[] {1, 1, 1});
        Lands.puts(x, 0, 1, 1);
        x.fix(2, 1);
        int[][] wrong = {{0, 5}, {7, 5}, {-1, 5}, {2, -1}, {2, 1001}, {Integer.MAX_VALUE, 0}};
        for (int[] w : wrong) {
            check.due("law as not said", x.law(w[0], w[1]), NONE);
        }
        Lands.ats(check, "a refused law", x, 0, 1, 1);
        check.due("still fixed", x.land(5), 1);
        check.due("still K", x.land(3), 2);
        x.keep(3, 1);
        x.cuts(4);
        check.due("law(6, 1000)", x.law(6, 1000), 1);
        Lands.ats(check, "law", x, 0, 0, 0);
        check.due("K", x.land(3), 6);
        check.due("t", x.land(4), 1000);
        check.due("none fixed", x.land(5), 0);
        check.due("fix tells none", x.fix(2, -1), -1);
        check.due("cuts stay", x.land(6), 4);
        check.due("kept stays", x.keep(3, 1), 1);
        check.due("district 0 has all", x.district(0, 0), 3);
        check.due("district 1 has none", x.district(1, 0), 0);
        check.due("law(1, 0)", x.law(1, 0), 1);
        check.due("one district", x.lawful(), 0);
        check.due("no district 1", x.put(0, 1), NONE);
        Lands.puts(x, 0, 0, 0);
        x.law(2, 0);
        x.put(1, 1);
        check.due("the same law again", x.law(2, 0), 1);
        Lands.ats(check, "the same law", x, 0, 0, 0);
    }

    private static void keep() {
        DistrictCutter x = new DistrictCutter();
        int[][] wrong = {{-1, 0}, {10, 0}, {0, -1}, {0, 2}, {Integer.MIN_VALUE, 1}};
        for (int[] w : wrong) {
            check.due("keep as not said", x.keep(w[0], w[1]), NONE);
        }
        check.due("keep(9, 1)", x.keep(9, 1), 0);
        check.due("keep(9, 1) again", x.keep(9, 1), 1);
        check.due("keep(9, 2)", x.keep(9, 2), NONE);
        check.due("keep(8, 0)", x.keep(8, 0), 0);
        check.due("keep(9, 0)", x.keep(9, 0), 1);
        check.due("keep(9, 0) again", x.keep(9, 0), 0);
    }

    private static void cuts() {
        DistrictCutter x = new DistrictCutter();
        check.due("cuts(-1)", x.cuts(-1), NONE);
        check.due("cuts(11)", x.cuts(11), NONE);
        check.due("cuts(0)", x.cuts(0), 10);
        check.due("cuts(10)", x.cuts(10), 0);
        check.due("cuts(3)", x.cuts(3), 10);
        check.due("land(6)", x.land(6), 3);
    }

    private static void fix() {
        DistrictCutter x = Lands.line(new int[] {1, 1});
        int[][] wrong = {{-1, 0}, {2, 0}, {0, 2}, {0, -2}, {Integer.MAX_VALUE, -1}};
        for (int[] w : wrong) {
            check.due("fix as not said", x.fix(w[0], w[1]), NONE);
        }
        check.due("none fixed", x.land(5), 0);
        check.due("fix(1, 0)", x.fix(1, 0), -1);
        check.due("fix(1, 1)", x.fix(1, 1), 0);
        check.due("fix(0, 1)", x.fix(0, 1), -1);
        check.due("two fixed", x.land(5), 2);
        check.due("fix does not move", x.at(1), 0);
        check.due("fix(1, -1)", x.fix(1, -1), 1);
        check.due("fix(1, -1) again", x.fix(1, -1), -1);
        check.due("one fixed", x.land(5), 1);
        x.place(1, 0, 0, 1, 0);
        check.due("a new place is not fixed", x.fix(2, -1), -1);
    }

    private static void people() {
        DistrictCutter x = Lands.line(new int[] {7, 8});
        int[][] wrong = {{-1, 0}, {2, 0}, {0, -1}, {0, 1001}};
        for (int[] w : wrong) {
            check.due("people as not said", x.people(w[0], w[1]), NONE);
        }
        check.due("people stay", x.land(2), 15);
        check.due("people(0, 1000)", x.people(0, 1000), 7);
        check.due("people(0, 0)", x.people(0, 0), 1000);
        check.due("all people", x.land(2), 8);
        check.due("of the district", x.district(0, 1), 8);
        x.put(1, 1);
        check.due("no longer of like size", x.lawful(), 3);
        x.people(0, 8);
        check.due("of like size", x.lawful(), 0);
    }

    private static void land() {
        DistrictCutter x = Lands.line(new int[] {5, 6, 7}, 3, 4);
        x.law(3, 77);
        x.cuts(9);
        x.fix(0, 2);
        int[] due = {3, 2, 18, 3, 77, 1, 9};
        for (int what = 0; what < due.length; what++) {
            check.due("land(" + what + ")", x.land(what), due[what]);
        }
        check.due("land(-1)", x.land(-1), NONE);
        check.due("land(7)", x.land(7), NONE);
        check.due("land(min)", x.land(Integer.MIN_VALUE), NONE);
    }
}

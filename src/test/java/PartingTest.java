/** Promises 9 to 14: the parting, the laws it breaks, its measures and its districts. */
public final class PartingTest {
    private static final Check check = new Check();
    private static final int NONE = -1;

    public static void main(String[] args) {
        putAndAt();
        laws();
        sizes();
        townsAndFixed();
        whyInPieces();
        edgeAndCutTowns();
        votes();
        districts();
        check.end("PartingTest");
    }

    private static void putAndAt() {
        DistrictCutter x = Lands.line(new int[] {1, 1, 1});
        x.law(3, 0);
        check.due("put(1, 2)", x.put(1, 2), 0);
        check.due("at(1)", x.at(1), 2);
        check.due("put(1, 1)", x.put(1, 1), 2);
        check.due("put(1, 1) again", x.put(1, 1), 1);
        int[][] wrong = {{-1, 0}, {3, 0}, {1, -1}, {1, 3}, {Integer.MAX_VALUE, 0}, {0, Integer.MIN_VALUE}};
        for (int[] w : wrong) {
            check.due("put as not said", x.put(w[0], w[1]), NONE);
        }
        Lands.ats(check, "refused puts", x, 0, 1, 0);
        check.due("at(-1)", x.at(-1), NONE);
        check.due("at(3)", x.at(3), NONE);
        check.due("at(30)", x.at(30), NONE);
    }

    private static void laws() {
        DistrictCutter x = Lands.line(new int[] {5, 5, 5, 5, 5, 5});
        x.law(3, 0);
        check.due("all in 0", x.lawful(), 1);
        check.due("the least district without places", x.why(0), 1);
        check.due("why(1) of law 1", x.why(1), NONE);
        Lands.puts(x, 0, 0, 2, 2, 0, 2);
        check.due("law 1 ahead of law 2", x.lawful(), 1);
        check.due("why law 1", x.why(0), 1);
        Lands.puts(x, 0, 0, 1, 2, 1, 2);
        check.due("districts in pieces", x.lawful(), 2);
        check.due("why law 2", x.why(0), 1);
        Lands.puts(x, 0, 1, 1, 1, 2, 2);
        check.due("sizes", x.lawful(), 3);
        check.due("why law 3: the least that does not fit", x.why(0), 0);
        check.due("why(1) of law 3", x.why(1), NONE);
        Lands.puts(x, 0, 0, 1, 1, 2, 2);
        check.due("all lawful", x.lawful(), 0);
        check.due("why of lawful", x.why(0), NONE);
        Lands.puts(x, 2, 2, 0, 0, 1, 1);
        check.due("all lawful, districts renamed", x.lawful(), 0);
    }

    private static void sizes() {
        // all 40, K = 2: a district of 18 is off by |36 - 40| of 40, 100 parts of a thousand
        DistrictCutter x = Lands.line(new int[] {18, 22});
        x.put(1, 1);
        check.due("just fits", x.lawful(), 0);
        x.law(2, 99);
        x.put(1, 1);
        check.due("one part too many", x.lawful(), 3);
        check.due("why", x.why(0), 0);
        // all 1000 in district 1 of two: off by 1000 of 1000
        DistrictCutter y = Lands.line(new int[] {0, 1000});
        y.law(2, 1000);
        y.put(1, 1);
        check.due("t = 1000 of two", y.lawful(), 0);
        // the great one of six is off by five times all; the least district is named
        DistrictCutter z = Lands.line(new int[] {0, 0, 0, 0, 0, 1000});
        z.law(6, 1000);
        Lands.puts(z, 0, 1, 2, 3, 4, 5);
        check.due("t = 1000 of six", z.lawful(), 3);
        check.due("why", z.why(0), 5);
        z.people(5, 0);
        check.due("nobody at all fits", z.lawful(), 0);
    }

    private static void townsAndFixed() {
        DistrictCutter x = new DistrictCutter();
        int[] towns = {7, 3, 5, 5, 3, 7};
        for (int town : towns) {
            x.place(1, 0, 0, 1, town);
        }
        for (int p = 0; p < 5; p++) {
            x.border(p, p + 1, 1);
        }
        Lands.puts(x, 0, 0, 0, 1, 1, 1);
        check.due("nothing kept", x.lawful(), 0);
        check.due("three towns cut", x.measure(1), 3);
        x.keep(7, 1);
        check.due("kept town cut", x.lawful(), 4);
        check.due("which", x.why(0), 7);
        x.keep(5, 1);
        check.due("the least kept one that is cut", x.why(0), 5);
        x.fix(4, 0);
        x.cuts(0);
        check.due("law 4 ahead of 5 and 6", x.lawful(), 4);
        x.keep(7, 0);
        x.keep(5, 0);
        check.due("fixed elsewhere", x.lawful(), 5);
        check.due("which place", x.why(0), 4);
        x.fix(2, 1);
        check.due("the least fixed elsewhere", x.why(0), 2);
        x.fix(2, 0);
        x.fix(4, 1);
        check.due("cuts 0", x.lawful(), 6);
        check.due("the first cut one is too many", x.why(0), 3);
        x.cuts(1);
        check.due("cuts 1", x.why(0), 5);
        x.cuts(2);
        check.due("cuts 2", x.lawful(), 6);
        check.due("the third one is too many", x.why(0), 7);
        check.due("why(1) of law 6", x.why(1), NONE);
        x.cuts(3);
        check.due("cuts 3", x.lawful(), 0);
        x.keep(9, 1);
        check.due("a kept town without places", x.lawful(), 0);
    }

    private static void whyInPieces() {
        DistrictCutter x = Lands.line(new int[] {1, 1, 1, 1, 1, 1, 1});
        Lands.puts(x, 0, 1, 1, 0, 1, 0, 0);
        check.due("in pieces", x.lawful(), 2);
        check.due("the least district", x.why(0), 0);
        check.due("its least place", x.why(1), 0);
        check.due("the least one without a way", x.why(2), 3);
        check.due("why(3)", x.why(3), NONE);
        check.due("why(-1)", x.why(-1), NONE);
        Lands.puts(x, 0, 1, 1, 0, 1, 1, 1);
        x.border(0, 3, 1);
        check.due("district 0 linked by its own border", x.why(0), 1);
        check.due("least place of district 1", x.why(1), 1);
        check.due("least place without a way", x.why(2), 4);
        x.border(6, 2, 1);
        check.due("all linked", x.district(1, 6), 1);
        DistrictCutter y = Lands.line(new int[30]);
        y.law(1, 0);
        check.due("a line of 30 places hangs together", y.lawful(), 0);
        y.law(2, 0);
        y.put(15, 1);
        check.due("in pieces", y.why(2), 16);
    }

    private static void edgeAndCutTowns() {
        DistrictCutter x = Lands.line(new int[] {1, 2, 4, 8}, 10, 20, 40);
        x.law(4, 0);
        check.due("no edge", x.measure(0), 0);
        Lands.puts(x, 3, 1, 1, 3);
        check.due("edge", x.measure(0), 50);
        check.due("edge of 1", x.district(1, 5), 50);
        check.due("greatest less least, districts without places too", x.measure(6), 9);
        Lands.puts(x, 0, 1, 2, 3);
        check.due("greatest less least", x.measure(6), 7);
        check.due("no cut towns", x.measure(1), 0);
        x.place(0, 0, 0, 1, 3);
        check.due("town 3 cut", x.measure(1), 1);
        check.due("measure(7)", x.measure(7), NONE);
        check.due("measure(-1)", x.measure(-1), NONE);
    }

    private static void votes() {
        DistrictCutter x = new DistrictCutter();
        x.place(0, 10, 5, 1, 0);
        x.place(0, 4, 4, 1, 0);
        x.place(0, 1, 6, 1, 0);
        x.law(3, 1000);
        Lands.puts(x, 0, 1, 2);
        check.due("seats of 0", x.measure(2), 1);
        check.due("seats of 1", x.measure(3), 1);
        // 10 : 5 wastes 10 - (7 + 1) = 2 and 5; 4 : 4 wastes all; 1 : 6 wastes 1 and 6 - (3 + 1) = 2
        check.due("wasted of 0", x.measure(4), 2 + 4 + 1);
        check.due("wasted of 1", x.measure(5), 5 + 4 + 2);
        Lands.puts(x, 0, 0, 0);
        check.due("15 : 15 is no seat", x.measure(2) + x.measure(3), 0);
        check.due("15 : 15 wastes all", x.measure(4) + x.measure(5), 30);
        Lands.puts(x, 0, 0, 1);
        // 14 : 9 wastes 14 - (11 + 1) = 2 and 9
        check.due("wasted of 0", x.measure(4), 2 + 1);
        check.due("wasted of 1", x.measure(5), 9 + 2);
    }

    private static void districts() {
        DistrictCutter x = new DistrictCutter();
        x.place(1, 10, 100, 7, 0);
        x.place(2, 20, 200, 8, 0);
        x.place(4, 40, 400, 9, 0);
        x.border(0, 1, 3);
        x.border(2, 1, 5);
        x.law(3, 0);
        Lands.puts(x, 2, 0, 2);
        int[][] due = {{1, 2, 20, 200, 8, 8, 1, 1}, {0, 0, 0, 0, 0, 0, 1, -1}, {2, 5, 50, 500, 16, 8, 0, 0}};
        for (int d = 0; d < due.length; d++) {
            for (int what = 0; what < 8; what++) {
                check.due("district(" + d + ", " + what + ")", x.district(d, what), due[d][what]);
            }
        }
        check.due("district(3, 0)", x.district(3, 0), NONE);
        check.due("district(-1, 0)", x.district(-1, 0), NONE);
        check.due("district(0, -1)", x.district(0, -1), NONE);
        check.due("district(0, 8)", x.district(0, 8), NONE);
    }
}

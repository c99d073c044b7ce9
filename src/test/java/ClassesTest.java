/** Promises 16 to 21: lawful classes, counted, laid, found, and held against each other. */
public final class ClassesTest {
    private static final Check check = new Check();
    private static final int NONE = -1;
    private static final int BIG = -4;
    private static final int EMPTY = -5;

    public static void main(String[] args) {
        refusals();
        orderOfSets();
        ring();
        towns();
        fixedLeftAside();
        stirling();
        cutsOfManyTowns();
        numbersThereAndBack();
        surveys();
        tooManyToSurvey();
        justFewEnough();
        changesAreSeen();
        changesAreSeenWithManyTowns();
        check.end("ClassesTest");
    }

    private static void refusals() {
        DistrictCutter none = new DistrictCutter();
        check.due("count", none.count(), EMPTY);
        check.due("kth", none.kth(-1), EMPTY);
        check.due("which", none.which(), EMPTY);
        check.due("same", none.same(-1), EMPTY);
        check.due("least", none.least(0), EMPTY);
        check.due("least(7)", none.least(7), NONE);
        check.due("among", none.among(0, 0), EMPTY);
        check.due("among(0, 3)", none.among(0, 3), NONE);
        DistrictCutter many = Lands.line(new int[13]);
        check.due("count", many.count(), BIG);
        check.due("kth", many.kth(-1), BIG);
        check.due("which", many.which(), BIG);
        check.due("same", many.same(-1), BIG);
        check.due("least", many.least(6), BIG);
        check.due("least(-1)", many.least(-1), NONE);
        check.due("among", many.among(6, 2), BIG);
        check.due("among(-1, 0)", many.among(-1, 0), NONE);
        check.due("among(0, -1)", many.among(0, -1), NONE);
        check.due("twelve places are few enough", Lands.line(new int[12]).count(), 11);
    }

    private static void orderOfSets() {
        // all 40, K = 2: sizes 10 to 30 fit by 500 parts
        DistrictCutter x = Lands.line(new int[] {10, 10, 10, 10});
        x.law(2, 500);
        check.due("count", x.count(), 3);
        int[][] due = {{0, 0, 0, 1}, {0, 0, 1, 1}, {0, 1, 1, 1}};
        for (int i = 0; i < 3; i++) {
            check.due("kth", x.kth(i), 1);
            Lands.ats(check, "kth(" + i + ")", x, due[i]);
            check.due("which", x.which(), i);
        }
        check.due("kth(3)", x.kth(3), NONE);
        check.due("kth(-1)", x.kth(-1), NONE);
        Lands.ats(check, "refused kth", x, due[2]);
        check.due("same(2)", x.same(2), 1);
        check.due("same(0)", x.same(0), 0);
        check.due("same(3)", x.same(3), NONE);
        check.due("same(-1)", x.same(-1), NONE);
        Lands.ats(check, "same lays nothing", x, due[2]);
        Lands.puts(x, 1, 1, 0, 0);
        check.due("the class of renamed districts", x.which(), 1);
        check.due("same, renamed", x.same(1), 1);
        Lands.puts(x, 0, 0, 0, 0);
        check.due("too few sets", x.which(), NONE);
        check.due("same of an unlawful class", x.same(0), 0);
        Lands.puts(x, 0, 1, 0, 1);
        check.due("in pieces", x.which(), NONE);
    }

    private static void ring() {
        DistrictCutter x = Lands.line(new int[] {1, 1, 1, 1});
        x.border(0, 3, 1);
        x.law(3, 1000);
        // the first sets: {0, 1}, {0, 3}, {0}; behind {0}: {1, 2}, {1}
        int[][] due = {{0, 0, 1, 2}, {0, 1, 2, 0}, {0, 1, 1, 2}, {0, 1, 2, 2}};
        check.due("count", x.count(), due.length);
        for (int i = 0; i < due.length; i++) {
            x.kth(i);
            Lands.ats(check, "ring, kth(" + i + ")", x, due[i]);
        }
    }

    private static void towns() {
        DistrictCutter x = new DistrictCutter();
        int[] towns = {0, 0, 1, 1};
        for (int town : towns) {
            x.place(0, 0, 0, 1, town);
        }
        for (int p = 0; p < 4; p++) {
            x.border(p, (p + 1) % 4, 1);
        }
        // of two sets: {0,1,2} {0,1,3} {0,1} {0,2,3} {0,3} {0}, in this order
        check.due("all", x.count(), 6);
        x.keep(0, 1);
        check.due("town 0 kept", x.count(), 3);
        x.kth(0);
        Lands.ats(check, "town 0 kept", x, 0, 0, 0, 1);
        x.keep(1, 1);
        check.due("both kept", x.count(), 1);
        x.kth(0);
        Lands.ats(check, "both kept", x, 0, 0, 1, 1);
        x.keep(0, 0);
        x.keep(1, 0);
        x.cuts(0);
        check.due("no cuts", x.count(), 1);
        x.cuts(1);
        check.due("one cut", x.count(), 5);
        x.kth(4);
        Lands.ats(check, "one cut", x, 0, 1, 1, 1);
        Lands.puts(x, 1, 0, 0, 1);
        check.due("two cuts are no lawful class", x.which(), NONE);
        x.cuts(2);
        check.due("two cuts", x.count(), 6);
        check.due("which", x.which(), 4);
        x.kth(4);
        Lands.ats(check, "two cuts", x, 0, 1, 1, 0);
    }

    private static void fixedLeftAside() {
        DistrictCutter x = Lands.line(new int[] {1, 1});
        x.fix(0, 1);
        check.due("count", x.count(), 1);
        check.due("kth", x.kth(0), 1);
        check.due("not lawful as it lies", x.lawful(), 5);
        check.due("but its class is", x.which(), 0);
        check.due("still fixed", x.land(5), 1);
    }

    private static void stirling() {
        int[] due = {1, 2047, 86526, 611501, 1379400, 1323652};
        DistrictCutter x = Lands.full(12, false);
        for (int k = 1; k <= 6; k++) {
            x.law(k, 0);
            check.due("sets of 12 places, K = " + k, x.count(), due[k - 1]);
        }
    }

    private static void cutsOfManyTowns() {
        // six towns of two places: whole towns alone are parted with no cuts
        DistrictCutter x = new DistrictCutter();
        for (int p = 0; p < 12; p++) {
            x.place(0, 0, 0, 1, p % 6);
        }
        for (int p = 0; p < 12; p++) {
            for (int q = 0; q < p; q++) {
                x.border(p, q, 1);
            }
        }
        x.law(3, 0);
        x.cuts(0);
        check.due("six towns in three sets", x.count(), 90);
        for (int i = 0; i < 90; i += 7) {
            x.kth(i);
            check.due("no town cut", x.measure(1), 0);
            check.due("which", x.which(), i);
        }
        x.cuts(6);
        check.due("no bound", x.count(), 86526);
        int before = 90;
        int[] bounded = new int[7];
        for (int cuts = 1; cuts <= 6; cuts++) {
            x.cuts(cuts);
            bounded[cuts] = x.count();
            check.holds("more cuts, more classes", bounded[cuts] > before);
            before = bounded[cuts];
        }
        // all six cut: 3 pairs of sets for each town, 6 ways but for the names of sets, less those of two sets
        check.due("just six cut", bounded[6] - bounded[5], (6 * 6 * 6 * 6 * 6 * 6 - 3 * 2 * 2 * 2 * 2 * 2 * 2) / 6);
    }

    private static void numbersThereAndBack() {
        DistrictCutter x = Lands.full(12, false);
        x.law(6, 0);
        int[] numbers = {0, 1, 1000, 661826, 1323650, 1323651};
        for (int number : numbers) {
            check.due("kth", x.kth(number), 1);
            check.due("which", x.which(), number);
            check.due("same", x.same(number), 1);
            check.due("lawful", x.lawful(), 0);
        }
        Lands.ats(check, "the last one", x, 0, 1, 2, 3, 4, 5, 5, 5, 5, 5, 5, 5);
        x.kth(0);
        Lands.ats(check, "the first one", x, 0, 0, 0, 0, 0, 0, 0, 1, 2, 3, 4, 5);
        check.due("past the last", x.kth(1323652), NONE);
    }

    private static void surveys() {
        DistrictCutter x = Lands.line(new int[] {10, 10, 10, 10}, 5, 3, 9);
        x.law(2, 500);
        // classes of edge 9, 3, 5, and of sizes apart 20, 0, 20
        check.due("least edge", x.least(0), 3);
        check.due("least apart", x.least(6), 0);
        check.due("least seats", x.least(2), 0);
        x.kth(2);
        check.due("less", x.among(0, 0), 1);
        check.due("as much", x.among(0, 1), 1);
        check.due("more", x.among(0, 2), 1);
        check.due("less apart", x.among(6, 0), 1);
        check.due("as much apart", x.among(6, 1), 2);
        check.due("more apart", x.among(6, 2), 0);
        Lands.ats(check, "surveys move nothing", x, 0, 1, 1, 1);
        Lands.puts(x, 0, 1, 0, 1);
        check.due("an unlawful parting's edge of 17", x.among(0, 0), 3);
        x.law(4, 0);
        check.due("one class", x.least(0), 17);
        x.law(5, 0);
        check.due("no class", x.least(0), -2000000);
        for (int how = 0; how < 3; how++) {
            check.due("among none", x.among(0, how), 0);
        }
    }

    private static void tooManyToSurvey() {
        DistrictCutter x = Lands.full(12, false);
        check.due("2047 classes", x.least(0), fewestOfFull());
        x.law(3, 0);
        check.due("86526 classes", x.least(0), BIG);
        check.due("86526 classes", x.among(0, 0), BIG);
        check.due("NONE is ahead", x.least(7), NONE);
        DistrictCutter y = Lands.full(9, true);
        y.law(4, 0);
        check.due("7770 classes", y.count(), 7770);
        check.due("each cuts the town", y.least(1), 1);
        check.due("more than none is cut", y.among(1, 2), 7770);
        DistrictCutter z = Lands.full(10, true);
        z.law(4, 0);
        check.due("34105 classes", z.count(), 34105);
        check.due("are too many", z.least(1), BIG);
        z.law(5, 0);
        check.due("42525 classes", z.count(), 42525);
        z.law(3, 0);
        check.due("9330 classes", z.among(1, 2), 9330);
    }

    /** The least edge of Lands.full(12) in two sets: all 2047 asked one by one. */
    private static int fewestOfFull() {
        int fewest = Integer.MAX_VALUE;
        for (int first = 0; first < 2047; first++) {
            int edge = 0;
            for (int p = 0; p < 12; p++) {
                for (int q = 0; q < p; q++) {
                    boolean apart = isIn(first, p) != isIn(first, q);
                    edge += apart ? 1 + (p * q) % 3 : 0;
                }
            }
            fewest = Math.min(fewest, edge);
        }
        return fewest;
    }

    private static boolean isIn(int first, int place) {
        return place == 0 || (first >> (place - 1) & 1) == 1;
    }

    /** Two lands found by search: one with 20000 classes, one with 20001, as the model counts, too. */
    private static void justFewEnough() {
        int[] few = {10, 11, 2, 8, 3, 11, 6, 4, 3, 9, 2, 3, 8, 11, 11, 9, 1, 6, 6, 5, 2, 1, 4, 11, 9, 7, 8, 5, 8, 3, 3, 7,
            8, 6, 0, 3, 6, 9, 7, 10, 11, 7, 0, 9, 8, 0, 4, 8, 6, 0, 1, 5};
        DistrictCutter x = nobodysLand(few, 4);
        check.due("20000 classes", x.count(), 20000);
        check.due("least of 20000", x.least(6), 0);
        check.due("among 20000", x.among(6, 1), 20000);
        int[] many = {8, 4, 1, 5, 11, 0, 2, 3, 0, 8, 4, 9, 5, 11, 9, 3, 5, 4, 5, 8, 8, 1, 0, 1, 7, 2, 0, 7, 6, 8, 8, 2,
            0, 3, 9, 7, 8, 3, 10, 0, 0, 2, 10, 3, 3, 4, 6, 9, 3, 6, 1, 2, 10, 9, 11, 4, 11, 6, 7, 3, 10, 6, 7, 10};
        DistrictCutter y = nobodysLand(many, 3);
        check.due("20001 classes", y.count(), 20001);
        check.due("least of 20001", y.least(6), BIG);
        check.due("among 20001", y.among(6, 1), BIG);
        Model model = new Model();
        for (int p = 0; p < 12; p++) {
            model.place(0, 0, 0, 1, p % 10);
        }
        for (int i = 0; i < many.length; i += 2) {
            model.border(many[i], many[i + 1], 1);
        }
        model.law(3, 0);
        check.due("20001 by the model", model.count(), 20001);
    }

    private static DistrictCutter nobodysLand(int[] borders, int k) {
        DistrictCutter x = new DistrictCutter();
        for (int p = 0; p < 12; p++) {
            x.place(0, 0, 0, 1, p % 10);
        }
        for (int i = 0; i < borders.length; i += 2) {
            x.border(borders[i], borders[i + 1], 1);
        }
        x.law(k, 0);
        return x;
    }

    private static void changesAreSeen() {
        DistrictCutter x = Lands.line(new int[] {1, 1, 1, 1});
        x.law(2, 0);
        check.due("count", x.count(), 1);
        x.people(0, 3);
        check.due("people changed", x.count(), 1);
        x.kth(0);
        Lands.ats(check, "people changed", x, 0, 1, 1, 1);
        x.border(0, 2, 1);
        x.people(0, 1);
        check.due("people and a border changed", x.count(), 1);
        x.border(0, 3, 1);
        check.due("a border more", x.count(), 2);
        x.place(0, 0, 0, 1, 0);
        check.due("a place without borders", x.count(), 0);
        x.border(4, 0, 1);
        check.due("now with one", x.count(), 2);
        x.law(2, 1000);
        check.holds("a wider law", x.count() > 2);
        x.keep(0, 1);
        int kept = x.count();
        x.keep(0, 0);
        check.holds("a kept town", x.count() > kept);
        x.cuts(0);
        check.due("no cuts", x.count(), kept);
    }

    /** What was told of an earlier land or law is not told of the next: each count is that of a new object. */
    private static void changesAreSeenWithManyTowns() {
        int[][] changes = {{0, 5, 1000}, {1, 0, 1}, {1, 0, 0}, {0, 4, 700}, {2, 3, 9}, {2, 8, 1}, {0, 6, 1000}, {3, 0, 11},
            {3, 2, 9}, {1, 3, 1}, {2, 11, 4}, {3, 1, 6}, {0, 3, 400}, {1, 3, 0}, {3, 5, 10}, {0, 3, 500}, {2, 0, 3}};
        for (int cuts = 0; cuts <= 6; cuts++) {
            DistrictCutter old = ringOfTowns(cuts);
            for (int done = 0; done <= changes.length; done++) {
                DistrictCutter fresh = ringOfTowns(cuts);
                for (int i = 0; i < done; i++) {
                    change(fresh, changes[i]);
                }
                if (done > 0) {
                    change(old, changes[done - 1]);
                }
                int due = fresh.count();
                check.due("cuts " + cuts + ", change " + done + ": count", old.count(), due);
                check.due("cuts " + cuts + ", change " + done + ": kth", old.kth(due / 2), fresh.kth(due / 2));
                for (int p = 0; p < 12; p++) {
                    check.due("cuts " + cuts + ", change " + done + ": at(" + p + ")", old.at(p), fresh.at(p));
                }
                check.due("cuts " + cuts + ", change " + done + ": which", old.which(), due == 0 ? NONE : due / 2);
            }
        }
    }

    private static void change(DistrictCutter x, int[] call) {
        switch (call[0]) {
            case 0: x.law(call[1], call[2]); break;
            case 1: x.keep(call[1], call[2]); break;
            case 2: x.people(call[1], call[2]); break;
            default: x.border(call[1], call[2], 1); break;
        }
    }

    private static DistrictCutter ringOfTowns(int cuts) {
        DistrictCutter x = new DistrictCutter();
        for (int p = 0; p < 12; p++) {
            x.place(5, 0, 0, 1, p / 2);
        }
        for (int p = 0; p < 12; p++) {
            x.border(p, (p + 1) % 12, 1);
            x.border(p, (p + 5) % 12, 1);
        }
        x.law(6, 1000);
        x.cuts(cuts);
        return x;
    }
}

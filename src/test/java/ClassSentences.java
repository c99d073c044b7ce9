/** Sentences of part 3 and of promises 16 to 21. */
final class ClassSentences {
    private static final int[][] FOUR_IN_LINE = {{0, 0, 0, 1}, {0, 0, 1, 1}, {0, 1, 1, 1}};

    private final Sentences s;

    ClassSentences(Sentences s) {
        this.s = s;
    }

    void test() {
        classesAndSets();
        lawfulClasses();
        numbers();
        count();
        kth();
        which();
        same();
        least();
        among();
    }

    /** Four places of ten people in a line: three classes of two sets. */
    private static DistrictCutter four() {
        DistrictCutter x = Lands.line(new int[] {10, 10, 10, 10}, 5, 3, 9);
        x.law(2, 500);
        return x;
    }

    /** So many places without people, each the neighbour of each: all partings into K sets are lawful classes. */
    private static DistrictCutter free(int places, int k) {
        DistrictCutter x = Lands.full(places, false);
        x.law(k, 0);
        return x;
    }

    private static DistrictCutter thirteen() {
        DistrictCutter x = Lands.line(new int[13]);
        x.put(12, 1);
        return x;
    }

    private void classesAndSets() {
        s.ofTerms("CLASSES: partings that are the same but for the numbers of districts are one CLASS.");
        DistrictCutter x = free(4, 3);
        Lands.puts(x, 0, 1, 0, 2);
        int due = x.which();
        s.holds("there is such a class", due >= 0);
        for (int[] order : new int[][] {{0, 1, 2}, {0, 2, 1}, {1, 0, 2}, {1, 2, 0}, {2, 0, 1}, {2, 1, 0}}) {
            Lands.puts(x, order[0], order[1], order[0], order[2]);
            s.due("which() with other numbers", x.which(), due);
            s.due("same() with other numbers", x.same(due), 1);
        }
        Lands.puts(x, 0, 1, 1, 2);
        s.holds("another class has another number", x.which() != due && x.same(due) == 0);
        s.ofTerms("Its SETS: the first one has place 0, the next one the least place that is not in those ahead, and so on; in "
            + "THE PARTING that is LAID for a CLASS they are districts 0, 1, ..");
        DistrictCutter y = free(7, 6);
        for (int i = 0; i < y.count(); i++) {
            y.kth(i);
            int used = 0;
            for (int p = 0; p < 7; p++) {
                s.holds("class " + i + ": the next set has the next number", y.at(p) <= used);
                used = Math.max(used, y.at(p) + 1);
            }
            s.due("sets of class " + i, used, 6);
        }
    }

    private void lawfulClasses() {
        s.ofTerms("A CLASS is LAWFUL if it has K SETS and the PARTING laid for it is, FIXED places left aside.");
        DistrictCutter x = four();
        s.run(x, "which() = NONE; put(3, 1); which() = 0; law(3, 1000); put(3, 1); which() = NONE; put(2, 2); which() = 0;"
            + "lawful() = 0");
        DistrictCutter y = four();
        s.run(y, "fix(0, 1); fix(3, 0); count() = 3; kth(0) = 1; lawful() = 5; which() = 0; same(0) = 1; least(0) = 3;"
            + "among(0, 0) = 2; land(5) = 2");
        s.run(free(5, 6), "count() = 0");
        s.run(free(6, 6), "count() = 1");
        s.run(free(1, 1), "count() = 1; kth(0) = 1; which() = 0; at(0) = 0");
        s.run(free(1, 2), "count() = 0; kth(0) = NONE; which() = NONE; same(0) = NONE");
        for (int k = 1; k <= 6; k++) {
            sixTowns(k);
        }
    }

    /** Twelve places in six towns of two: so many may be cut, from none to more than there are. */
    private void sixTowns(int k) {
        DistrictCutter x = new DistrictCutter();
        for (int p = 0; p < 12; p++) {
            x.place(0, 0, 0, 1, 3 + p % 6);
            for (int q = 0; q < p; q++) {
                x.border(q, p, 1);
            }
        }
        x.law(k, 0);
        int all = 0;
        for (int cuts = 0; cuts <= 10; cuts++) {
            int such = cuts > 6 ? 0 : withCuts(k, cuts);
            x.cuts(cuts);
            s.due("K = " + k + ", cuts(" + cuts + "): count()", x.count(), all + such);
            all += such;
            for (int number : new int[] {0, all / 3, all - 1}) {
                boolean is = number >= 0 && number < all;
                s.run(x, "kth(" + number + ") = " + (is ? "1; lawful() = 0; which() = " + number : "NONE"));
            }
            s.due("K = " + k + ", cuts(" + cuts + "): least(1)", x.least(1), all > 20000 ? -4 : all == 0 ? -2000000 : leastCut(k));
            x.law(k, 0);
            s.due("K = " + k + ", cuts(" + cuts + "): among(1, 2)", x.among(1, 2), all > 20000 ? -4 : all - withCuts(k, 0));
        }
    }

    private static int leastCut(int k) {
        return withCuts(k, 0) > 0 ? 0 : 1;
    }

    /** How many classes of K sets cut just so many of the six towns: partings, less those that leave districts empty. */
    private static int withCuts(int k, int cut) {
        long partings = 0;
        for (int empty = 0; empty <= k; empty++) {
            long used = k - empty;
            long here = choose(6, cut) * power(used, 6 - cut) * power(used * (used - 1), cut) * choose(k, empty);
            partings += empty % 2 == 0 ? here : -here;
        }
        for (int i = 2; i <= k; i++) {
            partings /= i;
        }
        return (int) partings;
    }

    private static long choose(int of, int some) {
        long ways = 1;
        for (int i = 0; i < some; i++) {
            ways = ways * (of - i) / (i + 1);
        }
        return ways;
    }

    private static long power(long base, int times) {
        long product = 1;
        for (int i = 0; i < times; i++) {
            product *= base;
        }
        return product;
    }

    private void numbers() {
        s.ofTerms("LAWFUL CLASSES of a land of at most 12 places are numbered from 0 on: by their first SET: of two the one comes "
            + "first that has the least place in which they differ; then by the next SET, likewise.");
        DistrictCutter x = free(4, 3);
        int[][] due = {{0, 0, 1, 2}, {0, 1, 0, 2}, {0, 1, 2, 0}, {0, 1, 1, 2}, {0, 1, 2, 1}, {0, 1, 2, 2}};
        s.due("count()", x.count(), due.length);
        for (int i = 0; i < due.length; i++) {
            s.due("kth(" + i + ")", x.kth(i), 1);
            s.ats(x, due[i]);
            s.due("which()", x.which(), i);
        }
        DistrictCutter twelve = free(12, 2);
        s.run(twelve, "count() = 2047; kth(0) = 1; at(10) = 0; at(11) = 1; kth(2046) = 1; at(0) = 0; at(1) = 1; at(11) = 1;"
            + "which() = 2046; kth(2047) = NONE");
    }

    private void count() {
        String section = "Promise 16: count";
        s.of(section, "How many LAWFUL CLASSES there are.");
        s.run(four(), "count() = 3; law(1, 0); count() = 1; law(4, 0); count() = 1; law(5, 1000); count() = 0; law(6, 1000);"
            + "count() = 0");
        // what there is now, whatever was counted before
        s.run(Lands.line(new int[] {1, 1, 1, 1}), "law(2, 0); count() = 1; people(0, 3) = 1; count() = 1; kth(0); at(1) = 1;"
            + "people(0, 1); border(0, 3, 1); count() = 2; border(0, 2, 1); count() = 2; place(0, 0, 0, 1, 0) = 4; count() = 0;"
            + "border(4, 1, 1); count() = 2; law(1, 0); count() = 1; place(0, 0, 0, 1, 0); count() = 0; law(2, 1000); count() = 1;"
            + "keep(0, 1); count() = 0; keep(0, 0); count() = 1; cuts(0); count() = 0; cuts(1); count() = 1");
        int[] parts = {1, 2047, 86526, 611501, 1379400, 1323652};
        for (int k = 1; k <= 6; k++) {
            s.due("all partings of 12 places, K = " + k, free(12, k).count(), parts[k - 1]);
        }
        s.of(section, "BIG, EMPTY.");
        s.run("count() = EMPTY; place(0, 0, 0, 1, 0); count() = 0; law(1, 0); count() = 1");
        s.run(Lands.line(new int[12]), "count() = 11; place(0, 0, 0, 1, 0) = 12; count() = BIG");
        s.run(Lands.line(new int[30]), "count() = BIG");
        s.ofTerms("BIG (-4): more than 12 places, or as told;");
        s.due("BIG", DistrictCutter.BIG, -4);
        s.run(thirteen(), "count() = -4; kth(0) = -4; which() = -4; same(0) = -4; least(0) = -4; among(0, 0) = -4;"
            + "lawful() = 0; better() = 0; mend(0) = 0; walk(1, 1, 0) = 0; seen(1) = 1");
    }

    private void kth() {
        String section = "Promise 17: kth";
        s.of(section, "THE PARTING becomes the one laid for LAWFUL CLASS i: 1.");
        DistrictCutter x = four();
        Lands.puts(x, 1, 0, 1, 0);
        for (int i = 2; i >= 0; i--) {
            s.due("kth(" + i + ")", x.kth(i), 1);
            s.ats(x, FOUR_IN_LINE[i]);
            s.due("places of both", x.district(0, 0) + x.district(1, 0), 4);
        }
        s.of(section, "NONE: there is none such (asked last).");
        s.within("place(1, 0, 0, 1, 0); place(1, 0, 0, 1, 0); place(1, 0, 0, 1, 0); border(0, 1, 1); border(1, 2, 1); law(2, 1000)",
            "kth(?)", 0, 1);
        s.run(four(), "put(2, 1); kth(3) = NONE; kth(-1) = NONE; kth(MIN) = NONE; kth(MAX) = NONE; at(2) = 1; at(3) = 0;"
            + "law(5, 0); kth(0) = NONE; kth(-1) = NONE");
        s.run("kth(-1) = EMPTY; kth(MIN) = EMPTY; kth(MAX) = EMPTY");
        s.run(thirteen(), "kth(-1) = BIG; kth(MAX) = BIG");
        s.of(section, "BIG, EMPTY.");
        s.run("kth(0) = EMPTY");
        s.run(thirteen(), "kth(0) = BIG; at(12) = 1");
        s.run(Lands.line(new int[12]), "kth(10) = 1; at(0) = 0; at(1) = 1; place(0, 0, 0, 1, 0); kth(10) = BIG; at(1) = 1");
    }

    private void which() {
        String section = "Promise 18: which";
        s.of(section, "The number of THE PARTING's CLASS.");
        DistrictCutter x = four();
        for (int i = 0; i < 3; i++) {
            Lands.puts(x, FOUR_IN_LINE[i]);
            s.due("which()", x.which(), i);
        }
        DistrictCutter most = free(12, 5);
        s.run(most, "kth(1379399) = 1; which() = 1379399; kth(0) = 1; which() = 0; kth(1379400) = NONE; which() = 0");
        s.of(section, "BIG, EMPTY.");
        s.run("which() = EMPTY");
        s.run(thirteen(), "lawful() = 0; which() = BIG; put(12, 0); lawful() = 1; which() = BIG");
        s.run(Lands.line(new int[12]), "put(11, 1); which() = 0; place(0, 0, 0, 1, 0); which() = BIG");
        s.of(section, "NONE: that is not LAWFUL (asked last).");
        s.run(four(), "which() = NONE; put(1, 1); which() = NONE; put(2, 1); put(3, 1); which() = 2; law(2, 0); put(3, 1);"
            + "which() = NONE; put(2, 1); which() = 0; cuts(0); which() = 0");
        s.run(townOfTwo(), "which() = 0; keep(0, 1); which() = NONE; keep(0, 0); cuts(0); which() = NONE; cuts(1); which() = 0");
    }

    private static DistrictCutter townOfTwo() {
        return Script.made("place(1, 0, 0, 1, 0); place(1, 0, 0, 1, 0); border(0, 1, 1); put(1, 1)");
    }

    private void same() {
        String section = "Promise 19: same";
        s.of(section, "1 if THE PARTING and that of i are of one CLASS, else 0, LAWFUL CLASS i being laid.");
        DistrictCutter x = four();
        for (int i = 0; i < 3; i++) {
            x.kth(i);
            for (int j = 0; j < 3; j++) {
                s.due("same(" + j + ") in class " + i, x.same(j), i == j ? 1 : 0);
            }
            s.ats(x, FOUR_IN_LINE[i]);
        }
        s.run(four(), "same(0) = 0; same(2) = 0; put(0, 1); same(2) = 1; put(2, 1); same(0) = 0; same(1) = 0; same(2) = 0");
        s.of(section, "NONE, BIG, EMPTY: as kth().");
        s.run("same(0) = EMPTY; same(-1) = EMPTY; same(MAX) = EMPTY");
        s.run(thirteen(), "same(0) = BIG; same(-1) = BIG; same(MIN) = BIG");
        s.run(four(), "same(3) = NONE; same(-1) = NONE; same(MIN) = NONE; same(MAX) = NONE; law(5, 0); same(0) = NONE");
    }

    private void least() {
        String section = "Promise 20: least";
        s.of(section, "The least value that a MEASURE has among all LAWFUL CLASSES, laid;");
        s.run(four(), "least(0) = 3; least(1) = 0; least(2) = 0; least(3) = 0; least(4) = 0; least(5) = 0; least(6) = 0;"
            + "law(4, 0); least(0) = 17; law(1, 0); least(0) = 0; at(3) = 0");
        s.run("place(3, 5, 2, 1, 0); place(4, 1, 8, 1, 0); border(0, 1, 6); law(2, 1000); least(0) = 6; least(1) = 1;"
            + "least(2) = 1; least(3) = 1; least(4) = 2; least(5) = 5; least(6) = 1");
        s.of(section, "-2000000: there is none.");
        s.run(four(), "law(5, 1000); least(0) = -2000000; least(6) = -2000000; law(4, 1000); least(0) = 17");
        s.run("place(0, 0, 0, 1, 0); count() = 0; least(3) = -2000000; law(1, 0); least(3) = 0");
        s.run("place(0, 0, 0, 1, 0); place(0, 0, 0, 1, 0); law(1, 1000); count() = 0; least(0) = -2000000; border(0, 1, 1);"
            + "least(0) = 0");
        s.of(section, "NONE: no such MEASURE;");
        s.run("least(-1) = NONE; least(7) = NONE; least(MIN) = NONE; least(MAX) = NONE; least(6) = EMPTY");
        s.run(thirteen(), "least(-1) = NONE; least(7) = NONE; least(0) = BIG; least(6) = BIG");
        s.run(free(12, 3), "least(-1) = NONE; least(7) = NONE");
        s.run(four(), "least(-1) = NONE; least(7) = NONE");
        s.of(section, "BIG (also if there are more than 20000), EMPTY.");
        s.run("least(0) = EMPTY");
        s.run(Lands.line(new int[12]), "least(0) = 1; place(0, 0, 0, 1, 0); least(0) = BIG");
        s.run(justEnough(), "count() = 20000; least(0) = 7; least(6) = 0");
        s.run(oneTooMany(), "count() = 20001; least(0) = BIG; least(6) = BIG; law(2, 0); least(6) = 0");
        s.run(free(12, 5), "count() = 1379400; least(0) = BIG");
    }

    private void among() {
        String section = "Promise 21: among";
        s.of(section, "How many LAWFUL CLASSES, laid, have less (how 0), as much (1), more (2) of a MEASURE than THE PARTING.");
        s.run(four(), "among(0, 0) = 0; among(0, 1) = 0; among(0, 2) = 3; kth(1); among(0, 0) = 0; among(0, 1) = 1;"
            + "among(0, 2) = 2; kth(2); among(0, 0) = 1; among(0, 1) = 1; among(0, 2) = 1; put(2, 0); among(0, 0) = 3;"
            + "among(0, 1) = 0; among(0, 2) = 0; law(5, 0); among(0, 0) = 0; among(0, 1) = 0; among(0, 2) = 0");
        s.run("place(0, 0, 0, 1, 0); place(0, 0, 0, 1, 0); law(1, 1000); among(0, 0) = 0; among(0, 1) = 0; among(0, 2) = 0;"
            + "border(0, 1, 1); among(0, 1) = 1");
        s.of(section, "NONE, BIG (as least()), EMPTY.");
        s.run("among(0, 0) = EMPTY; among(6, 2) = EMPTY; among(-1, 0) = NONE; among(7, 0) = NONE; among(0, -1) = NONE;"
            + "among(0, 3) = NONE; among(MIN, MAX) = NONE");
        s.run(thirteen(), "among(0, 0) = BIG; among(7, 0) = NONE; among(0, 3) = NONE");
        s.run(four(), "among(7, 0) = NONE; among(-1, 0) = NONE; among(0, 3) = NONE; among(0, -1) = NONE; among(0, MIN) = NONE;"
            + "among(MAX, 0) = NONE; among(6, 2) = 0");
        s.run(Lands.line(new int[12]), "among(0, 2) = 11; place(0, 0, 0, 1, 0); among(0, 2) = BIG");
        s.run(justEnough(), "among(6, 0) = 0; among(6, 1) = 20000; among(6, 2) = 0; among(0, 2) = 20000");
        s.run(oneTooMany(), "among(6, 1) = BIG; among(0, 0) = BIG; among(7, 1) = NONE; among(0, 3) = NONE");
    }

    /** A land of 20000 classes, found by search; their number and least edge are the model's, too. */
    private static DistrictCutter justEnough() {
        return nobodysLand(4, 10, 11, 2, 8, 3, 11, 6, 4, 3, 9, 2, 3, 8, 11, 11, 9, 1, 6, 6, 5, 2, 1, 4, 11, 9, 7, 8, 5, 8, 3, 3,
            7, 8, 6, 0, 3, 6, 9, 7, 10, 11, 7, 0, 9, 8, 0, 4, 8, 6, 0, 1, 5);
    }

    /** A land of 20001 classes, found by search. */
    private static DistrictCutter oneTooMany() {
        return nobodysLand(3, 8, 4, 1, 5, 11, 0, 2, 3, 0, 8, 4, 9, 5, 11, 9, 3, 5, 4, 5, 8, 8, 1, 0, 1, 7, 2, 0, 7, 6, 8, 8, 2,
            0, 3, 9, 7, 8, 3, 10, 0, 0, 2, 10, 3, 3, 4, 6, 9, 3, 6, 1, 2, 10, 9, 11, 4, 11, 6, 7, 3, 10, 6, 7, 10);
    }

    private static DistrictCutter nobodysLand(int k, int... borders) {
        DistrictCutter x = new DistrictCutter();
        for (int p = 0; p < 12; p++) {
            x.place(0, 0, 0, 1, p % 10);
        }
        for (int i = 0; i < borders.length; i += 2) {
            x.border(borders[i], borders[i + 1], 1);
        }
        x.law(k, 0);
        return x;
    }
}

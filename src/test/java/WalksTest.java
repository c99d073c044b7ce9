/** Promises 22 to 24: steps, walks and what they see. */
public final class WalksTest {
    private static final Check check = new Check();
    private static final int NONE = -1;
    private static final int KIND = -3;
    private static final int EMPTY = -5;

    private static long seed;

    public static void main(String[] args) {
        refusals();
        nothingToCross();
        namesByLeastPlace();
        seamsByNumberDrawn();
        crossingByNumberDrawn();
        likeNumbers();
        unlawfulStays();
        walkByHand();
        seenStays();
        check.end("WalksTest");
    }

    private static int draw() {
        seed = (seed * 1103515245L + 12345L) & 0xffffffffL;
        return (int) (seed >> 16);
    }

    private static int nth(int start, int n) {
        seed = start & 0xffffffffL;
        int number = 0;
        for (int i = 0; i < n; i++) {
            number = draw();
        }
        return number;
    }

    private static void refusals() {
        DistrictCutter none = new DistrictCutter();
        check.due("step", none.step(1), EMPTY);
        check.due("walk", none.walk(1, 1, 0), EMPTY);
        check.due("walk(0, ..)", none.walk(0, 1, 0), NONE);
        DistrictCutter x = Lands.line(new int[] {1, 1});
        check.due("step", x.step(1), KIND);
        check.due("walk", x.walk(200, 1, 0), KIND);
        check.due("walk(201, ..)", x.walk(201, 1, 0), NONE);
        check.due("walk(-1, ..)", x.walk(-1, 1, 0), NONE);
        check.due("walk(.., 7)", x.walk(1, 1, 7), NONE);
        check.due("walk(.., -1)", x.walk(1, 1, -1), NONE);
        check.due("seen before any", x.seen(3), NONE);
        x.put(1, 1);
        check.due("walk of 200", x.walk(200, 1, 6), 0);
        check.due("seen(-1)", x.seen(-1), NONE);
        check.due("seen(6)", x.seen(6), NONE);
        check.due("seen(1)", x.seen(1), 200);
    }

    private static void nothingToCross() {
        DistrictCutter x = Lands.line(new int[] {1, 1, 1});
        x.law(1, 0);
        check.due("one district", x.step(9), 0);
        check.due("walk", x.walk(5, 9, 0), 0);
        check.due("all stayed", x.seen(1), 5);
        check.due("none led to another", x.seen(5), 0);
        DistrictCutter y = new DistrictCutter();
        y.place(1, 0, 0, 1, 0);
        y.place(1, 0, 0, 1, 0);
        y.put(1, 1);
        check.due("no borders", y.step(9), 0);
        Lands.ats(check, "no borders", y, 0, 1);
    }

    private static void namesByLeastPlace() {
        DistrictCutter x = Lands.line(new int[] {1, 1});
        Lands.puts(x, 1, 0);
        check.due("the least place gets the lesser number", x.step(3), 1);
        Lands.ats(check, "named anew", x, 0, 1);
        check.due("the same again", x.step(3), 0);
        Lands.puts(x, 1, 0);
        x.fix(0, 1);
        check.due("fixed", x.step(3), 0);
        Lands.ats(check, "fixed", x, 1, 0);
    }

    /** A line of three: one crossing, two borders, two seams: the fourth number drawn tells the seam. */
    private static void seamsByNumberDrawn() {
        int[] seeds = {0, 1, -1, 2, 3, 77, 123456789, Integer.MIN_VALUE, Integer.MAX_VALUE, -98765};
        int changed = 0;
        for (int start : seeds) {
            DistrictCutter x = Lands.line(new int[] {1, 1, 1});
            x.law(2, 334);
            Lands.puts(x, 0, 1, 1);
            int seam = nth(start, 4) % 2;
            check.due("step(" + start + ")", x.step(start), seam);
            Lands.ats(check, "step(" + start + ")", x, 0, seam == 1 ? 0 : 1, 1);
            changed += seam;
        }
        check.holds("some changed, some did not", changed > 0 && changed < seeds.length);
        DistrictCutter x = Lands.line(new int[] {1, 1, 2});
        x.law(2, 0);
        Lands.puts(x, 0, 0, 1);
        for (int start : seeds) {
            check.due("one seam that fits", x.step(start), 0);
        }
    }

    /** Four in a line in three districts: the first number drawn tells which two melt. */
    private static void crossingByNumberDrawn() {
        int[] met = new int[2];
        for (int start = 0; start < 60; start++) {
            DistrictCutter x = Lands.line(new int[] {1, 1, 1, 1});
            x.law(3, 1000);
            Lands.puts(x, 0, 1, 1, 2);
            // melted at border 0 or 2: a line of three, two borders, two seams
            int taken = nth(start, 1) % 2;
            int seam = nth(start, 4) % 2;
            x.step(start);
            met[taken]++;
            if (taken == 0) {
                Lands.ats(check, "melted 0, 1", x, 0, seam == 1 ? 0 : 1, 1, 2);
            } else {
                Lands.ats(check, "melted 1, 2", x, 0, 1, seam == 0 ? 2 : 1, 2);
            }
        }
        check.holds("both met", met[0] > 5 && met[1] > 5);
    }

    /** A ring of three whose tree hangs on two like numbers: the lesser border comes first. */
    private static void likeNumbers() {
        int found = 0;
        for (int start = 0; start < 3000000 && found < 4; start++) {
            nth(start, 1);
            int zero = draw();
            int one = draw();
            int two = draw();
            if (one == two && zero < one) {
                found++;
                DistrictCutter x = Lands.line(new int[] {0, 0, 0});
                x.border(0, 2, 1);
                Lands.puts(x, 0, 0, 1);
                // the tree is borders 0 and 1, not 0 and 2: its parts are {0} {1, 2} or {0, 1} {2}
                int seam = draw() % 2;
                check.due("step", x.step(start), seam == 0 ? 1 : 0);
                Lands.ats(check, "like numbers", x, 0, seam == 0 ? 1 : 0, 1);
            }
        }
        check.due("seeds with like numbers", found, 4);
    }

    private static void unlawfulStays() {
        int stayed = 0;
        for (int start = 0; start < 20; start++) {
            DistrictCutter x = Lands.line(new int[] {1, 1, 1});
            x.law(2, 1000);
            x.place(0, 0, 0, 1, 0);
            x.border(3, 2, 1);
            Lands.puts(x, 0, 1, 1, 1);
            x.keep(0, 0);
            x.fix(1, 1);
            x.step(start);
            check.due("the fixed place stays", x.at(1), 1);
            stayed += x.at(2) == 1 ? 1 : 0;
        }
        check.due("no step could be lawful", stayed, 20);
    }

    /** The line of three again: each step draws four numbers. */
    private static void walkByHand() {
        DistrictCutter x = Lands.line(new int[] {1, 1, 1}, 5, 9);
        x.law(2, 1000);
        Lands.puts(x, 0, 0, 1);
        int n = 50;
        int start = 4711;
        seed = start;
        int less = 0;
        int changed = 0;
        int border = 1;
        for (int i = 0; i < n; i++) {
            draw();
            draw();
            draw();
            int next = draw() % 2;
            changed += next != border ? 1 : 0;
            border = next;
            less += border == 0 ? 1 : 0;
        }
        check.due("walk", x.walk(n, start, 0), less);
        check.due("less", x.seen(0), less);
        check.due("as much", x.seen(1), n - less);
        check.due("more", x.seen(2), 0);
        check.due("least", x.seen(3), 5);
        check.due("greatest", x.seen(4), 9);
        check.due("changed", x.seen(5), changed);
        Lands.ats(check, "the parting stays", x, 0, 0, 1);
        Lands.puts(x, 0, 1, 1);
        check.due("from the lesser edge", x.walk(1, start, 0), 0);
        check.due("one seen", x.seen(1) + x.seen(2), 1);
        check.due("least is greatest", x.seen(3), x.seen(4));
    }

    private static void seenStays() {
        DistrictCutter x = Lands.line(new int[] {1, 1}, 7);
        Lands.puts(x, 1, 0);
        check.due("walk", x.walk(3, 1, 0), 0);
        x.walk(0, 1, 0);
        x.walk(3, 1, 9);
        x.put(0, 0);
        check.due("refused", x.walk(3, 1, 0), KIND);
        x.law(3, 3);
        int[] due = {0, 3, 0, 7, 7, 1};
        for (int how = 0; how < 6; how++) {
            check.due("seen(" + how + ")", x.seen(how), due[how]);
        }
    }
}

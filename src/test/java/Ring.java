/**
 * Steps in a ring of places in two districts, told by hand: the ring's tree is all of it but the border that is
 * taken last, and each cut of the tree is a row of places.
 */
final class Ring {
    final int[] part;
    int withoutSeam;
    private final int[] people;
    private final int tolerance;
    private final boolean drawsWithoutSeam;
    private Draws draws;

    /** If it draws without a seam, too, it is the document's ring no more: to see whether a test can tell. */
    Ring(int tolerance, boolean drawsWithoutSeam, int... people) {
        this.tolerance = tolerance;
        this.drawsWithoutSeam = drawsWithoutSeam;
        this.people = people;
        part = new int[people.length];
        part[0] = 1;
    }

    /** Places from this one on are in district 1, those ahead of it in district 0. */
    Ring splitAt(int place) {
        for (int p = 0; p < part.length; p++) {
            part[p] = p < place ? 0 : 1;
        }
        return this;
    }

    /** The same land in the program: border i is between place i and the next one. */
    DistrictCutter land() {
        DistrictCutter x = new DistrictCutter();
        for (int p = 0; p < people.length; p++) {
            x.place(people[p], 0, 0, 1, p % 10);
        }
        for (int p = 0; p < people.length; p++) {
            x.border(p, (p + 1) % people.length, lengthOf(p));
        }
        x.law(2, tolerance);
        Lands.puts(x, part);
        return x;
    }

    void seed(int seed) {
        draws = new Draws(seed);
    }

    int edge() {
        int sum = 0;
        for (int p = 0; p < part.length; p++) {
            sum += part[p] != part[(p + 1) % part.length] ? lengthOf(p) : 0;
        }
        return sum;
    }

    private static int lengthOf(int border) {
        return 1 + border * border % 7;
    }

    /** Whether it is another parting then. */
    boolean step() {
        draws.draw();
        int last = takenLast();
        int[] seams = new int[part.length];
        int found = 0;
        for (int border = 0; border < part.length; border++) {
            if (border != last && fits(border, last)) {
                seams[found++] = border;
            }
        }
        if (found == 0) {
            withoutSeam++;
            draws.skip(drawsWithoutSeam ? 1 : 0);
            return false;
        }
        return cut(seams[draws.draw() % found], last);
    }

    private int takenLast() {
        int last = 0;
        int greatest = -1;
        for (int border = 0; border < part.length; border++) {
            int number = draws.draw();
            if (number >= greatest) {
                greatest = number;
                last = border;
            }
        }
        return last;
    }

    /** Whether a place is between two borders, going up from the first one. */
    private boolean isBetween(int place, int first, int second) {
        int n = part.length;
        return (place - first - 1 + n) % n < (second - first + n) % n;
    }

    private boolean fits(int first, int second) {
        int all = 0;
        int inside = 0;
        for (int p = 0; p < part.length; p++) {
            all += people[p];
            inside += isBetween(p, first, second) ? people[p] : 0;
        }
        return 1000 * Math.abs(2 * inside - all) <= tolerance * all;
    }

    private boolean cut(int first, int second) {
        boolean changed = false;
        boolean leads = isBetween(0, first, second);
        for (int p = 0; p < part.length; p++) {
            int district = isBetween(p, first, second) == leads ? 0 : 1;
            changed |= district != part[p];
            part[p] = district;
        }
        return changed;
    }
}

/**
 * A land of up to twelve places that comes into being place by place, each with its borders to those
 * that are there: of some K, with towns of one, of two or of more places.
 */
final class GrowingLand {
    static final int MOST = 12;
    static final int TOWN_KINDS = 5;
    static final int SHAPES = 3;

    final DistrictCutter x;
    final int shape;
    final int towns;
    final int k;
    final int tolerance;
    int calls;
    int places;

    GrowingLand(int shape, int towns, int k, int tolerance) {
        this.shape = shape;
        this.towns = towns;
        this.k = k;
        this.tolerance = tolerance;
        x = new DistrictCutter();
        x.law(k, tolerance);
        calls = 1;
    }

    /** Towns of one place (as far as there are towns), of two, of three, of four and one, of all places. */
    int townOf(int place) {
        switch (towns) {
            case 0:
                return place % 10;
            case 1:
                return place / 2;
            case 2:
                return 9 - place % 4;
            case 3:
                return place < 8 ? place % 2 : place - 6;
            default:
                return 7;
        }
    }

    int peopleOf(int place) {
        return tolerance == 1000 ? 0 : 10 + place * place % 7;
    }

    /** All are neighbours; or places are cells of a grid of three columns, or beads of a ring with chords. */
    boolean isBorder(int a, int b) {
        switch (shape) {
            case 0:
                return true;
            case 1:
                return b - a == 3 || b - a == 1 && b % 3 != 0;
            default:
                return b - a == 1 || b - a == 5 || a == 0 && b == MOST - 1;
        }
    }

    int lengthOf(int a, int b) {
        return 1 + (a + 2 * b) % 4;
    }

    void grow() {
        x.place(peopleOf(places), places, 5, 1, townOf(places));
        calls++;
        for (int a = 0; a < places; a++) {
            if (isBorder(a, places)) {
                x.border(a, places, lengthOf(a, places));
                calls++;
            }
        }
        places++;
    }

    int cuts(int n) {
        calls++;
        return x.cuts(n);
    }

    int count() {
        calls++;
        return x.count();
    }

    int least(int m) {
        calls++;
        return x.least(m);
    }

    int among(int m, int how) {
        calls++;
        return x.among(m, how);
    }
}

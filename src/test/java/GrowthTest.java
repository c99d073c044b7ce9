/**
 * Promises 16 to 21 in lands of 1 to 12 places that grow place by place, K from 1 to 6, CUTS from 0 to 10:
 * held against a listing of all partings of the land, which knows nothing of how the program counts.
 */
public final class GrowthTest {
    private static final Check check = new Check();
    private static final int MOST_EDGE = 400;
    private static final int NO_CLASS = -2000000;

    private final GrowingLand land;
    private final boolean[] hangs = new boolean[1 << GrowingLand.MOST];
    private final int[] dwellers = new int[1 << GrowingLand.MOST];
    private final int[] sets = new int[6];
    private final int[] towns = new int[10];
    // of classes with so many towns cut, and of such an edge, how many there are
    private int[][] found;
    private int all;
    private int asked;

    private GrowthTest(GrowingLand land) {
        this.land = land;
    }

    public static void main(String[] args) {
        for (int shape = 0; shape < GrowingLand.SHAPES; shape++) {
            for (int towns = 0; towns < GrowingLand.TOWN_KINDS; towns++) {
                for (int k = 1; k <= 6; k++) {
                    int tolerance = shape == 0 || (towns + k) % 3 == 0 ? 1000 : 400 + 100 * towns;
                    new GrowthTest(new GrowingLand(shape, towns, k, tolerance)).grow();
                }
            }
        }
        check.end("GrowthTest");
    }

    private void grow() {
        for (int n = 1; n <= GrowingLand.MOST; n++) {
            land.grow();
            towns[land.townOf(n - 1)] |= 1 << (n - 1);
            list();
            for (int cuts = 0; cuts <= 10; cuts++) {
                land.cuts(cuts);
                check.due(name(cuts) + " count()", land.count(), withAtMost(cuts));
                if ((cuts + n) % 4 == 0) {
                    surveys(cuts);
                }
            }
            if (n % 3 == 0) {
                numbers(n % 5);
            }
        }
        check.holds(name(0) + " has at most 512 calls, not " + land.calls, land.calls <= 512);
    }

    private String name(int cuts) {
        return "shape " + land.shape + ", towns " + land.towns + ", K " + land.k + ", t " + land.tolerance + ", "
            + land.places + " places, cuts " + cuts + ":";
    }

    private void surveys(int cuts) {
        int few = withAtMost(cuts);
        int edge = land.x.measure(0);
        int how = asked++ % 3;
        land.calls++;
        int low = NO_CLASS;
        int such = 0;
        for (int value = 0; value < MOST_EDGE; value++) {
            int here = 0;
            for (int cut = 0; cut <= cuts; cut++) {
                here += found[cut][value];
            }
            low = here > 0 && low == NO_CLASS ? value : low;
            such += Integer.signum(value - edge) == how - 1 ? here : 0;
        }
        check.due(name(cuts) + " least(0)", land.least(0), few > 20000 ? -4 : low);
        check.due(name(cuts) + " among(0, " + how + ")", land.among(0, how), few > 20000 ? -4 : such);
    }

    /** A class laid must be a lawful one, of the number that was asked, and others of other numbers. */
    private void numbers(int cuts) {
        land.cuts(cuts);
        int few = withAtMost(cuts);
        int number = few * 2 / 3;
        land.calls += 5;
        check.due(name(cuts) + " kth past the last", land.x.kth(few), -1);
        check.due(name(cuts) + " kth", land.x.kth(number), few == 0 ? -1 : 1);
        if (few > 0) {
            check.due(name(cuts) + " lawful()", land.x.lawful(), 0);
            check.due(name(cuts) + " which()", land.x.which(), number);
            check.due(name(cuts) + " same()", land.x.same(few - 1), number == few - 1 ? 1 : 0);
        }
    }

    private int withAtMost(int cuts) {
        int sum = 0;
        for (int cut = 0; cut <= cuts; cut++) {
            for (int count : found[cut]) {
                sum += count;
            }
        }
        return sum;
    }

    private void list() {
        found = new int[11][MOST_EDGE];
        all = 0;
        for (int place = 0; place < land.places; place++) {
            all += land.peopleOf(place);
        }
        for (int set = 1; set < 1 << land.places; set++) {
            hangs[set] = reach(set) == set;
            int last = Integer.numberOfTrailingZeros(set);
            dwellers[set] = dwellers[set & (set - 1)] + land.peopleOf(last);
        }
        listFrom(0, 0);
    }

    private int reach(int set) {
        int reached = Integer.lowestOneBit(set);
        for (int round = 0; round < land.places; round++) {
            for (int b = 0; b < land.places; b++) {
                for (int a = 0; a < b; a++) {
                    boolean inside = (set >> a & 1) == 1 && (set >> b & 1) == 1 && land.isBorder(a, b);
                    if (inside && (reached >> a & 1) + (reached >> b & 1) == 1) {
                        reached |= 1 << a | 1 << b;
                    }
                }
            }
        }
        return reached;
    }

    /** Each place joins a set that is there, or is the first of the next one. */
    private void listFrom(int place, int used) {
        if (place == land.places) {
            if (used == land.k) {
                judge();
            }
            return;
        }
        for (int d = 0; d <= used && d < land.k; d++) {
            sets[d] |= 1 << place;
            listFrom(place + 1, Math.max(used, d + 1));
            sets[d] &= ~(1 << place);
        }
    }

    private void judge() {
        for (int d = 0; d < land.k; d++) {
            int off = Math.abs(land.k * dwellers[sets[d]] - all);
            if (!hangs[sets[d]] || 1000 * off > land.tolerance * all) {
                return;
            }
        }
        found[cutTowns()][edge()]++;
    }

    private int cutTowns() {
        int cut = 0;
        for (int whole : towns) {
            int homes = 0;
            for (int d = 0; d < land.k; d++) {
                homes += (sets[d] & whole) != 0 ? 1 : 0;
            }
            cut += homes > 1 ? 1 : 0;
        }
        return cut;
    }

    private int edge() {
        int sum = 0;
        for (int d = 0; d < land.k; d++) {
            for (int b = 0; b < land.places; b++) {
                for (int a = 0; a < b && (sets[d] >> b & 1) == 1; a++) {
                    boolean apart = (sets[d] >> a & 1) == 0;
                    sum += apart && land.isBorder(a, b) ? land.lengthOf(a, b) : 0;
                }
            }
        }
        return sum;
    }
}

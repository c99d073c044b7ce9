import java.util.ArrayList;
import java.util.Arrays;
import java.util.Comparator;
import java.util.List;

/** The document's words in their plainest and slowest form, to hold the program against. */
final class Model {
    final List<int[]> places = new ArrayList<>();
    final List<int[]> borders = new ArrayList<>();
    int k = 2;
    int t = 100;
    int cuts = 10;
    final boolean[] kept = new boolean[10];
    int[] fixed = new int[0];
    int[] part = new int[0];
    int[] seen;
    int seed;

    private static boolean in(int v, int from, int to) {
        return from <= v && v <= to;
    }

    private boolean isPlace(int p) {
        return in(p, 0, places.size() - 1);
    }

    int place(int people, int zero, int one, int area, int town) {
        if (!in(people, 0, 1000) || !in(zero, 0, 1000) || !in(one, 0, 1000) || !in(area, 1, 100) || !in(town, 0, 9)) {
            return -1;
        }
        if (places.size() == 30) {
            return -2;
        }
        places.add(new int[] {people, zero, one, area, town});
        part = Arrays.copyOf(part, places.size());
        fixed = Arrays.copyOf(fixed, places.size());
        fixed[places.size() - 1] = -1;
        return places.size() - 1;
    }

    int border(int a, int b, int length) {
        if (!isPlace(a) || !isPlace(b) || a == b || !in(length, 1, 100)) {
            return -1;
        }
        for (int[] e : borders) {
            if (e[0] == a && e[1] == b || e[0] == b && e[1] == a) {
                return -1;
            }
        }
        if (borders.size() == 100) {
            return -2;
        }
        borders.add(new int[] {a, b, length});
        return borders.size() - 1;
    }

    int law(int newK, int newT) {
        if (!in(newK, 1, 6) || !in(newT, 0, 1000)) {
            return -1;
        }
        k = newK;
        t = newT;
        Arrays.fill(part, 0);
        Arrays.fill(fixed, -1);
        return 1;
    }

    int keep(int town, int is) {
        if (!in(town, 0, 9) || !in(is, 0, 1)) {
            return -1;
        }
        int was = kept[town] ? 1 : 0;
        kept[town] = is == 1;
        return was;
    }

    int cuts(int n) {
        if (!in(n, 0, 10)) {
            return -1;
        }
        int was = cuts;
        cuts = n;
        return was;
    }

    int fix(int p, int d) {
        if (!isPlace(p) || !in(d, -1, k - 1)) {
            return -1;
        }
        int was = fixed[p];
        fixed[p] = d;
        return was;
    }

    int people(int p, int v) {
        if (!isPlace(p) || !in(v, 0, 1000)) {
            return -1;
        }
        int was = places.get(p)[0];
        places.get(p)[0] = v;
        return was;
    }

    int put(int p, int d) {
        if (!isPlace(p) || !in(d, 0, k - 1)) {
            return -1;
        }
        int was = part[p];
        part[p] = d;
        return was;
    }

    int at(int p) {
        return isPlace(p) ? part[p] : -1;
    }

    private int sum(int[] parting, int d, int column) {
        int sum = 0;
        for (int p = 0; p < parting.length; p++) {
            sum += parting[p] == d ? places.get(p)[column] : 0;
        }
        return sum;
    }

    private int all() {
        int sum = 0;
        for (int[] p : places) {
            sum += p[0];
        }
        return sum;
    }

    private boolean fits(int people) {
        return 1000L * Math.abs((long) k * people - all()) <= (long) t * all();
    }

    private int firstOf(int[] parting, int d) {
        for (int p = 0; p < parting.length; p++) {
            if (parting[p] == d) {
                return p;
            }
        }
        return -1;
    }

    /** The least place of a district to which no way leads from its least one; -1: it hangs together. */
    private int loose(int[] parting, int d) {
        int start = firstOf(parting, d);
        if (start < 0) {
            return -1;
        }
        boolean[] reached = new boolean[parting.length];
        reached[start] = true;
        for (int round = 0; round < parting.length; round++) {
            for (int[] e : borders) {
                if (parting[e[0]] == d && parting[e[1]] == d && reached[e[0]] != reached[e[1]]) {
                    reached[e[0]] = true;
                    reached[e[1]] = true;
                }
            }
        }
        for (int p = 0; p < parting.length; p++) {
            if (parting[p] == d && !reached[p]) {
                return p;
            }
        }
        return -1;
    }

    private boolean isCut(int[] parting, int town) {
        for (int p = 0; p < parting.length; p++) {
            for (int q = 0; q < p; q++) {
                if (places.get(p)[4] == town && places.get(q)[4] == town && parting[p] != parting[q]) {
                    return true;
                }
            }
        }
        return false;
    }

    /** Law and culprit; {0, -1} if lawful. */
    private int[] judge(int[] parting, boolean withFixed) {
        for (int d = 0; d < k; d++) {
            if (firstOf(parting, d) < 0) {
                return new int[] {1, d};
            }
        }
        for (int d = 0; d < k; d++) {
            if (loose(parting, d) >= 0) {
                return new int[] {2, d};
            }
        }
        for (int d = 0; d < k; d++) {
            if (!fits(sum(parting, d, 0))) {
                return new int[] {3, d};
            }
        }
        for (int town = 0; town < 10; town++) {
            if (kept[town] && isCut(parting, town)) {
                return new int[] {4, town};
            }
        }
        for (int p = 0; withFixed && p < parting.length; p++) {
            if (fixed[p] >= 0 && fixed[p] != parting[p]) {
                return new int[] {5, p};
            }
        }
        int cut = 0;
        for (int town = 0; town < 10; town++) {
            cut += isCut(parting, town) ? 1 : 0;
            if (cut > cuts) {
                return new int[] {6, town};
            }
        }
        return new int[] {0, -1};
    }

    private boolean isLawful(int[] parting) {
        return judge(parting, true)[0] == 0;
    }

    int lawful() {
        return places.isEmpty() ? -5 : judge(part, true)[0];
    }

    int why(int what) {
        if (places.isEmpty()) {
            return -1;
        }
        int[] found = judge(part, true);
        if (found[0] == 0) {
            return -1;
        }
        if (what == 0) {
            return found[1];
        }
        if (found[0] == 2 && what == 1) {
            return firstOf(part, found[1]);
        }
        if (found[0] == 2 && what == 2) {
            return loose(part, found[1]);
        }
        return -1;
    }

    private int wasted(int own, int other) {
        if (own <= other) {
            return own;
        }
        int half = (own + other) / 2;
        return own - (half + 1);
    }

    private int weigh(int[] parting, int m) {
        int result = 0;
        if (m == 0) {
            for (int[] e : borders) {
                result += parting[e[0]] != parting[e[1]] ? e[2] : 0;
            }
            return result;
        }
        if (m == 1) {
            for (int town = 0; town < 10; town++) {
                result += isCut(parting, town) ? 1 : 0;
            }
            return result;
        }
        int greatest = -1;
        int least = 1000000;
        for (int d = 0; d < k; d++) {
            int zero = sum(parting, d, 1);
            int one = sum(parting, d, 2);
            greatest = Math.max(greatest, sum(parting, d, 0));
            least = Math.min(least, sum(parting, d, 0));
            if (m == 2) {
                result += zero > one ? 1 : 0;
            } else if (m == 3) {
                result += one > zero ? 1 : 0;
            } else if (m == 4) {
                result += wasted(zero, one);
            } else if (m == 5) {
                result += wasted(one, zero);
            }
        }
        return m == 6 ? greatest - least : result;
    }

    int measure(int m) {
        return in(m, 0, 6) ? weigh(part, m) : -1;
    }

    int district(int d, int what) {
        if (!in(d, 0, k - 1) || !in(what, 0, 7)) {
            return -1;
        }
        if (what == 0) {
            return (int) Arrays.stream(part).filter(x -> x == d).count();
        }
        if (what <= 4) {
            return sum(part, d, what - 1);
        }
        if (what == 5) {
            int sum = 0;
            for (int[] e : borders) {
                sum += (part[e[0]] == d) != (part[e[1]] == d) ? e[2] : 0;
            }
            return sum;
        }
        if (what == 6) {
            return loose(part, d) < 0 ? 1 : 0;
        }
        return firstOf(part, d);
    }

    int land(int what) {
        int fixedPlaces = (int) Arrays.stream(fixed).filter(x -> x >= 0).count();
        int[] all = {places.size(), borders.size(), all(), k, t, fixedPlaces, cuts};
        return in(what, 0, 6) ? all[what] : -1;
    }

    // ---- classes

    private int classRefusal() {
        return places.size() > 12 ? -4 : places.isEmpty() ? -5 : 0;
    }

    /** All lawful classes, laid, in their order. */
    List<int[]> classes() {
        List<int[]> found = new ArrayList<>();
        grow(new int[places.size()], 0, 0, found);
        Comparator<int[]> order = (x, y) -> {
            for (int d = 0; d < k; d++) {
                for (int p = 0; p < x.length; p++) {
                    boolean inX = x[p] == d;
                    boolean inY = y[p] == d;
                    if (inX != inY) {
                        return inX ? -1 : 1;
                    }
                }
            }
            return 0;
        };
        found.sort(order);
        return found;
    }

    /** A place joins a set there is, or opens the next one: so each class comes once, laid. */
    private void grow(int[] parting, int place, int sets, List<int[]> found) {
        if (place == parting.length) {
            if (sets == k && judge(parting, false)[0] == 0) {
                found.add(parting.clone());
            }
            return;
        }
        for (int d = 0; d <= sets && d < k; d++) {
            parting[place] = d;
            grow(parting, place + 1, Math.max(sets, d + 1), found);
        }
    }

    private int[] laid(int[] parting) {
        int[] names = new int[6];
        Arrays.fill(names, -1);
        int used = 0;
        int[] result = new int[parting.length];
        for (int p = 0; p < parting.length; p++) {
            if (names[parting[p]] < 0) {
                names[parting[p]] = used++;
            }
            result[p] = names[parting[p]];
        }
        return result;
    }

    int count() {
        return classRefusal() < 0 ? classRefusal() : classes().size();
    }

    int kth(int i) {
        if (classRefusal() < 0) {
            return classRefusal();
        }
        List<int[]> all = classes();
        if (!in(i, 0, all.size() - 1)) {
            return -1;
        }
        part = all.get(i);
        return 1;
    }

    int which() {
        if (classRefusal() < 0) {
            return classRefusal();
        }
        List<int[]> all = classes();
        for (int i = 0; i < all.size(); i++) {
            if (Arrays.equals(all.get(i), laid(part))) {
                return i;
            }
        }
        return -1;
    }

    int same(int i) {
        if (classRefusal() < 0) {
            return classRefusal();
        }
        List<int[]> all = classes();
        if (!in(i, 0, all.size() - 1)) {
            return -1;
        }
        return Arrays.equals(all.get(i), laid(part)) ? 1 : 0;
    }

    int least(int m) {
        if (!in(m, 0, 6)) {
            return -1;
        }
        if (classRefusal() < 0) {
            return classRefusal();
        }
        List<int[]> all = classes();
        if (all.size() > 20000) {
            return -4;
        }
        return all.stream().mapToInt(x -> weigh(x, m)).min().orElse(-2000000);
    }

    int among(int m, int how) {
        if (!in(m, 0, 6) || !in(how, 0, 2)) {
            return -1;
        }
        if (classRefusal() < 0) {
            return classRefusal();
        }
        List<int[]> all = classes();
        if (all.size() > 20000) {
            return -4;
        }
        int own = weigh(part, m);
        return (int) all.stream().filter(x -> Integer.signum(weigh(x, m) - own) == how - 1).count();
    }

    // ---- walks

    private int draw() {
        seed = (int) ((long) seed * 1103515245L + 12345L);
        return (int) ((seed & 0xffffffffL) / 65536L);
    }

    private boolean linked(List<int[]> edges, int a, int b, int[] leave) {
        boolean[] reached = new boolean[places.size()];
        reached[a] = true;
        for (int round = 0; round < places.size(); round++) {
            for (int[] e : edges) {
                if (e != leave && reached[e[0]] != reached[e[1]]) {
                    reached[e[0]] = true;
                    reached[e[1]] = true;
                }
            }
        }
        return reached[b];
    }

    private int[] stepFrom(int[] parting) {
        List<int[]> crossing = new ArrayList<>();
        for (int[] e : borders) {
            if (parting[e[0]] != parting[e[1]]) {
                crossing.add(e);
            }
        }
        if (crossing.isEmpty()) {
            return parting;
        }
        int[] taken = crossing.get(draw() % crossing.size());
        int low = Math.min(parting[taken[0]], parting[taken[1]]);
        int high = Math.max(parting[taken[0]], parting[taken[1]]);
        List<int[]> drawn = new ArrayList<>();
        for (int i = 0; i < borders.size(); i++) {
            int[] e = borders.get(i);
            boolean inside = (parting[e[0]] == low || parting[e[0]] == high) && (parting[e[1]] == low || parting[e[1]] == high);
            if (inside) {
                drawn.add(new int[] {draw(), i});
            }
        }
        drawn.sort((x, y) -> x[0] != y[0] ? x[0] - y[0] : x[1] - y[1]);
        List<int[]> tree = new ArrayList<>();
        List<Integer> numbers = new ArrayList<>();
        for (int[] one : drawn) {
            int[] e = borders.get(one[1]);
            if (!linked(tree, e[0], e[1], null)) {
                tree.add(e);
                numbers.add(one[1]);
            }
        }
        numbers.sort(null);
        List<int[]> seams = new ArrayList<>();
        for (int number : numbers) {
            int[] e = borders.get(number);
            int here = 0;
            int there = 0;
            for (int p = 0; p < parting.length; p++) {
                if (parting[p] == low || parting[p] == high) {
                    if (linked(tree, e[0], p, e)) {
                        here += places.get(p)[0];
                    } else {
                        there += places.get(p)[0];
                    }
                }
            }
            if (fits(here) && fits(there)) {
                seams.add(e);
            }
        }
        if (seams.isEmpty()) {
            return parting;
        }
        int[] seam = seams.get(draw() % seams.size());
        int[] next = parting.clone();
        int least = -1;
        for (int p = 0; p < parting.length; p++) {
            if (parting[p] == low || parting[p] == high) {
                least = least < 0 ? p : least;
                next[p] = linked(tree, least, p, seam) ? low : high;
            }
        }
        return isLawful(next) ? next : parting;
    }

    private int changeRefusal() {
        return places.isEmpty() ? -5 : isLawful(part) ? 0 : -3;
    }

    int step(int newSeed) {
        if (changeRefusal() < 0) {
            return changeRefusal();
        }
        seed = newSeed;
        int[] was = part;
        part = stepFrom(part).clone();
        return Arrays.equals(was, part) ? 0 : 1;
    }

    int walk(int n, int newSeed, int m) {
        if (!in(n, 1, 200) || !in(m, 0, 6)) {
            return -1;
        }
        if (changeRefusal() < 0) {
            return changeRefusal();
        }
        seed = newSeed;
        int[] sights = {0, 0, 0, Integer.MAX_VALUE, Integer.MIN_VALUE, 0};
        int own = weigh(part, m);
        int[] now = part;
        for (int i = 0; i < n; i++) {
            int[] next = stepFrom(now);
            sights[5] += Arrays.equals(now, next) ? 0 : 1;
            now = next;
            int value = weigh(now, m);
            sights[value < own ? 0 : value == own ? 1 : 2]++;
            sights[3] = Math.min(sights[3], value);
            sights[4] = Math.max(sights[4], value);
        }
        seen = sights;
        return seen[0];
    }

    int seen(int how) {
        return seen == null || !in(how, 0, 5) ? -1 : seen[how];
    }

    // ---- changes

    private boolean improveOnce() {
        for (int p = 0; p < part.length; p++) {
            for (int d = 0; d < k; d++) {
                int[] next = part.clone();
                next[p] = d;
                if (weigh(next, 0) < weigh(part, 0) && isLawful(next)) {
                    part = next;
                    return true;
                }
            }
        }
        return false;
    }

    int better() {
        if (changeRefusal() < 0) {
            return changeRefusal();
        }
        int moved = 0;
        while (improveOnce()) {
            moved++;
        }
        return moved;
    }

    private int[] cost(int[] parting) {
        int people = 0;
        int count = 0;
        for (int p = 0; p < parting.length; p++) {
            if (parting[p] != part[p]) {
                people += places.get(p)[0];
                count++;
            }
        }
        return new int[] {people, count};
    }

    private void near(int[] parting, int from, int left, List<int[]> found) {
        found.add(parting.clone());
        for (int p = from; left > 0 && p < parting.length; p++) {
            for (int d = 0; d < k; d++) {
                if (d != part[p]) {
                    parting[p] = d;
                    near(parting, p + 1, left - 1, found);
                    parting[p] = part[p];
                }
            }
        }
    }

    int mend(int n) {
        if (!in(n, 0, 2)) {
            return -1;
        }
        if (places.isEmpty()) {
            return -5;
        }
        List<int[]> all = new ArrayList<>();
        near(part.clone(), 0, n, all);
        all.sort((x, y) -> {
            int costs = Arrays.compare(cost(x), cost(y));
            return costs != 0 ? costs : Arrays.compare(x, y);
        });
        for (int[] one : all) {
            if (isLawful(one)) {
                int people = cost(one)[0];
                part = one;
                return people;
            }
        }
        return -6;
    }
}

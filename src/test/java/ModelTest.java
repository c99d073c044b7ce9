import java.util.Random;

/** Random runs of calls on the program and on the model: each answer, and the parting behind it, must agree. */
public final class ModelTest {
    private final Random random;
    private final DistrictCutter x = new DistrictCutter();
    private final Model y = new Model();
    private final int run;
    private final int[] hits;

    private ModelTest(int run, int[] hits) {
        this.run = run;
        this.random = new Random(run);
        this.hits = hits;
    }

    public static void main(String[] args) {
        Check all = new Check();
        int[] hits = new int[40];
        for (int run = 0; run < 3000; run++) {
            ModelTest test = new ModelTest(run, hits);
            all.due("run " + run, test.wrongAnswers(), 0);
        }
        for (int run = 3000; run < 3120; run++) {
            ModelTest test = new ModelTest(run, hits);
            all.due("wide run " + run, test.wrongWideAnswers(), 0);
        }
        String[] rare = {"a step that changed", "a walk with changes", "better that moved", "mend of people",
            "mend by nobody", "class above 0", "same", "law 1", "law 2", "law 3", "law 4", "law 5", "law 6",
            "-6", "among below", "least of none", "mend by two", "a wide step that changed"};
        for (int i = 0; i < rare.length; i++) {
            all.holds("runs met often enough: " + rare[i] + " (" + hits[i] + ")", hits[i] >= 20);
        }
        all.end("ModelTest");
    }

    private int pick(int bound) {
        return random.nextInt(bound);
    }

    private int wrong;

    private int agree(String call, int got, int want) {
        if (got != want) {
            wrong++;
            System.out.println("run " + run + ": " + call + " answered " + got + ", due is " + want);
        }
        return want;
    }

    private int wrongAnswers() {
        int style = pick(4);
        int places = style == 0 ? (pick(3) == 0 ? 30 : pick(31)) : style == 1 ? 8 + pick(4) : 1 + pick(8);
        int people = new int[] {1, 3, 20, 1001}[pick(4)];
        int votes = new int[] {1, 3, 20, 1001}[pick(4)];
        int towns = 1 + pick(10);
        for (int i = 0; i < places; i++) {
            addPlace(people, votes, towns);
        }
        int tries = places < 2 ? 0 : pick(5 * places);
        if (pick(3) > 0) {
            for (int p = 1; p < places; p++) {
                addBorder(p, p - 1 - pick(Math.min(p, 3)));
            }
        }
        for (int i = 0; i < tries && places > 1; i++) {
            addBorder(pick(places), pick(places));
        }
        changeLaw();
        // a land of many places is seldom lawful by chance: let most such runs begin so
        if (places > 12 && pick(4) > 0) {
            agree("law", x.law(2, 1000), y.law(2, 1000));
            agree("put", x.put(places - 1, 1), y.put(places - 1, 1));
        }
        for (int i = 0; i < 60 && wrong == 0; i++) {
            call(people, votes, towns);
            for (int p = 0; p < y.places.size(); p++) {
                agree("at(" + p + ")", x.at(p), y.at(p));
            }
        }
        return wrong;
    }

    /** Steps and changes in lands of 30 places and up to 100 borders. */
    private int wrongWideAnswers() {
        for (int tries = 0; tries < 300 && y.places.size() < 30; tries++) {
            addPlace(20, 20, 10);
        }
        for (int p = 1; p < 30; p++) {
            int q = p - 1 - pick(Math.min(p, 4));
            boolean turned = pick(2) == 0;
            addBorder(turned ? q : p, turned ? p : q);
        }
        int more = pick(2) == 0 ? 300 : pick(60);
        for (int i = 0; i < more; i++) {
            addBorder(pick(30), pick(30));
        }
        agree("land(1)", x.land(1), y.land(1));
        int k = 2 + pick(2);
        agree("law", x.law(k, 1000), y.law(k, 1000));
        for (int d = 1; d < k; d++) {
            int p = 28 + d % 2;
            agree("put", x.put(p, d), y.put(p, d));
        }
        for (int i = 0; i < 12; i++) {
            int s = random.nextInt();
            note(17, agree("step", x.step(s), y.step(s)) == 1);
            agree("walk", x.walk(5, s, i % 7), y.walk(5, s, i % 7));
            agree("district", x.district(0, 5), y.district(0, 5));
            agree("measure", x.measure(i % 7), y.measure(i % 7));
            for (int p = 0; p < 30; p++) {
                agree("at(" + p + ")", x.at(p), y.at(p));
            }
        }
        agree("better", x.better(), y.better());
        for (int p = 0; p < 30; p++) {
            agree("at(" + p + ")", x.at(p), y.at(p));
        }
        return wrong;
    }

    private void addPlace(int people, int votes, int towns) {
        int v = pick(people);
        int zero = pick(votes);
        int one = pick(votes);
        int area = pick(101);
        int town = pick(towns);
        agree("place", x.place(v, zero, one, area, town), y.place(v, zero, one, area, town));
    }

    private void addBorder(int a, int b) {
        int length = 1 + pick(pick(2) == 0 ? 5 : 100);
        agree("border", x.border(a, b, length), y.border(a, b, length));
    }

    private void changeLaw() {
        int k = 1 + pick(pick(2) == 0 ? 3 : 6);
        int t = new int[] {1000, 600, pick(1001), 100}[pick(4)];
        agree("law", x.law(k, t), y.law(k, t));
        for (int p = 0; p < y.places.size(); p++) {
            int d = Math.min(k - 1, p * k / y.places.size());
            agree("put", x.put(p, d), y.put(p, d));
        }
    }

    private int someone() {
        return pick(y.places.size() + 2) - 1;
    }

    private void call(int people, int votes, int towns) {
        int places = y.places.size();
        // the model lists all classes: lands of which it would list too many are left to ClassesTest
        boolean small = places <= 8 || places <= 11 && y.k <= 3 && pick(4) == 0 || places > 12;
        int a = pick(10) - 1;
        int b = pick(5) - 1;
        int p = someone();
        int d = pick(y.k + 2) - 1;
        switch (pick(30)) {
            case 0: if (pick(4) == 0) addPlace(people, votes, towns); break;
            case 1: if (y.places.size() > 1) addBorder(someone(), someone()); break;
            case 2: if (pick(3) == 0) changeLaw(); break;
            case 3: agree("keep", x.keep(a, b - 1), y.keep(a, b - 1)); judgeBoth(); break;
            case 4: { int n = pick(3) > 0 ? pick(4) : pick(13) - 1; agree("cuts", x.cuts(n), y.cuts(n)); judgeBoth(); break; }
            case 5: agree("fix", x.fix(p, d), y.fix(p, d)); break;
            case 6: if (pick(3) == 0) agree("people", x.people(p, a * 7), y.people(p, a * 7)); break;
            case 7: case 8: agree("put", x.put(p, d), y.put(p, d)); break;
            case 9: agree("district", x.district(d, a), y.district(d, a)); break;
            case 10: agree("land", x.land(a), y.land(a)); break;
            case 11: case 12: agree("measure", x.measure(a), y.measure(a)); break;
            case 13: judgeBoth(); break;
            case 14: if (small) agree("count", x.count(), y.count()); break;
            case 15: case 16: if (small) layBoth(); break;
            case 17: if (small) note(5, agree("which", x.which(), y.which()) > 0); break;
            case 18: if (small) note(6, agree("same", x.same(a), y.same(a)) == 1); break;
            case 19: if (small) note(15, agree("least", x.least(a), y.least(a)) == -2000000); break;
            case 20: if (small) note(14, agree("among", x.among(a, b), y.among(a, b)) > 0); break;
            case 21: case 22: { int s = random.nextInt(); note(0, agree("step", x.step(s), y.step(s)) == 1); judgeBoth(); break; }
            case 23: walkBoth(a); break;
            case 24: agree("seen", x.seen(a - 1), y.seen(a - 1)); break;
            case 25: case 26: note(2, agree("better", x.better(), y.better()) > 0); break;
            case 27: case 28: mendBoth(b); break;
            default: unfixSome(); break;
        }
    }

    private void note(int what, boolean is) {
        hits[what] += is ? 1 : 0;
    }

    private void judgeBoth() {
        int law = agree("lawful", x.lawful(), y.lawful());
        if (law > 0) {
            hits[6 + law]++;
        }
        for (int what = -1; what <= 3; what++) {
            agree("why", x.why(what), y.why(what));
        }
    }

    private void layBoth() {
        int total = Math.max(0, y.count());
        int i = pick(total + 2) - 1;
        agree("kth", x.kth(i), y.kth(i));
        agree("same", x.same(i), y.same(i));
        agree("which", x.which(), y.which());
        if (pick(2) == 0 && y.k > 1) {
            swapNames();
            agree("same, renamed", x.same(i), y.same(i));
        }
    }

    private void swapNames() {
        int one = pick(y.k);
        int two = pick(y.k);
        for (int p = 0; p < y.places.size(); p++) {
            int d = y.at(p) == one ? two : y.at(p) == two ? one : y.at(p);
            agree("put", x.put(p, d), y.put(p, d));
        }
    }

    private void walkBoth(int m) {
        int n = pick(30);
        int s = random.nextInt();
        agree("walk", x.walk(n, s, m), y.walk(n, s, m));
        for (int how = -1; how <= 6; how++) {
            agree("seen", x.seen(how), y.seen(how));
        }
        note(1, y.seen(5) > 0);
    }

    private void mendBoth(int n) {
        if (y.places.size() > 12 && pick(4) > 0) {
            return;
        }
        boolean was = y.lawful() == 0;
        int[] before = y.part.clone();
        int moved = agree("mend", x.mend(n), y.mend(n));
        int elsewhere = 0;
        for (int p = 0; p < before.length; p++) {
            elsewhere += before[p] == y.part[p] ? 0 : 1;
        }
        note(3, moved > 0);
        note(4, moved == 0 && !was);
        note(13, moved == -6);
        note(16, elsewhere == 2);
    }

    private void unfixSome() {
        for (int p = 0; p < y.places.size(); p++) {
            if (pick(2) == 0) {
                agree("fix", x.fix(p, -1), y.fix(p, -1));
            }
        }
    }
}

import java.util.Random;

/** Runs of 512 calls with wild arguments: no call throws, and a refused one changes nothing. */
public final class WildTest {
    private static final Check check = new Check();
    private static final int[] EDGES = {Integer.MIN_VALUE, Integer.MIN_VALUE + 1, -1001, -6, -2, -1, 0, 1, 2, 6, 7, 9, 10,
        11, 12, 29, 30, 31, 99, 100, 101, 200, 201, 1000, 1001, 65536, Integer.MAX_VALUE - 1, Integer.MAX_VALUE};

    private final Random random;
    private final DistrictCutter x = new DistrictCutter();
    private final int size;

    private WildTest(int run) {
        random = new Random(run);
        size = 1 + random.nextInt(run % 2 == 0 ? 12 : 30);
    }

    public static void main(String[] args) {
        for (int run = 0; run < 400; run++) {
            new WildTest(run).calls(run);
        }
        check.end("WildTest");
    }

    private void calls(int run) {
        for (int i = 0; i < 512; i++) {
            boolean probed = random.nextInt(8) == 0;
            String before = probed ? state() : "";
            int call = random.nextInt(27);
            int answer = answer(call);
            // fix() answers -1 for a place that was not fixed, mend() and least() have numbers of their own
            boolean isRefusal = answer < 0 && answer >= -5 && call != 5;
            if (probed && isRefusal) {
                check.holds("run " + run + ", call " + i + " of kind " + call + " changes nothing", before.equals(state()));
            }
        }
    }

    private String state() {
        StringBuilder all = new StringBuilder();
        for (int i = 0; i < 30; i++) {
            all.append(x.at(i)).append(' ');
        }
        for (int i = 0; i < 7; i++) {
            all.append(x.land(i)).append(' ').append(x.seen(i)).append(' ').append(x.measure(i)).append(' ');
        }
        return all.toString();
    }

    private int any() {
        switch (random.nextInt(4)) {
            case 0:
                return EDGES[random.nextInt(EDGES.length)];
            case 1:
                return random.nextInt();
            default:
                return tame();
        }
    }

    private int tame() {
        return random.nextInt(size);
    }

    private int answer(int call) {
        switch (call) {
            case 0: return x.place(any(), any(), any(), any(), any());
            case 1: return x.border(any(), any(), any());
            case 2: return random.nextInt(4) == 0 ? x.law(any(), any()) : x.at(any());
            case 3: return x.keep(any(), any());
            case 4: return x.cuts(any());
            case 5: return x.fix(any(), any());
            case 6: return x.people(any(), any());
            case 7: return x.put(any(), any());
            case 8: return x.at(any());
            case 9: return x.lawful();
            case 10: return x.why(any());
            case 11: return x.measure(any());
            case 12: return x.district(any(), any());
            case 13: return x.land(any());
            case 14: return x.count();
            case 15: return x.kth(any());
            case 16: return x.which();
            case 17: return x.same(any());
            case 18: return x.least(any());
            case 19: return x.among(any(), any());
            case 20: return x.step(any());
            case 21: return x.walk(any(), any(), any());
            case 22: return x.seen(any());
            case 23: return x.better();
            case 24: return x.mend(any());
            case 25: return x.land(0) < size ? x.place(tame(), tame(), tame(), 1 + tame(), tame() % 10) : x.put(tame(), tame() % 3);
            default: return x.border(tame(), tame(), 1 + tame());
        }
    }
}

import java.lang.management.ManagementFactory;
import java.lang.reflect.Array;
import java.lang.reflect.Field;
import java.lang.reflect.Modifier;
import java.nio.file.Files;
import java.nio.file.Path;
import java.util.IdentityHashMap;
import java.util.Map;
import java.util.regex.Matcher;
import java.util.regex.Pattern;

/**
 * All calls of a run live in one room. Counted as the dearest call's objects and elements times all calls:
 * only constructors make something, so small that a run of nothing but new objects would have room.
 */
public final class RoomTest {
    private static final Check check = new Check();
    private static final long MOST_OBJECTS = 600_000;
    private static final long MOST_ELEMENTS = 7_300_000;
    private static final int CALLS = 512;
    // what the machine itself may make while it loads and compiles: a row of any table would be longer
    private static final long NEXT_TO_NOTHING = 2_000;

    private static long objects;
    private static long elements;

    public static void main(String[] args) throws Exception {
        onlyConstructorsMake(Files.readString(Path.of("src/main/java/DistrictCutter.java")));
        newObject();
        growingLands(false);
        growingLands(true);
        boundsThatRise();
        walkCalls(false);
        walkCalls(true);
        check.end("RoomTest");
    }

    /** In the program's text each 'new' stands in a constructor: a head that bears its class's name. */
    private static void onlyConstructorsMake(String source) {
        String code = source.replaceAll("(?s)/\\*.*?\\*/", " ").replaceAll("//[^\n]*", " ");
        Pattern type = Pattern.compile("^ *(?:public |private )?(?:static )?final class (\\w+) \\{$");
        Pattern method = Pattern.compile("^ +[\\w\\[\\] ]*?(\\w+)\\([\\w\\[\\], ]*\\) \\{$");
        Pattern maker = Pattern.compile("\\bnew\\b|\\bclone\\(|\\bcopyOf(Range)?\\(|\\bString(Builder)?\\b|\\w List\\b");
        String inType = "";
        String inMethod = "";
        int made = 0;
        for (String line : code.split("\n")) {
            Matcher types = type.matcher(line);
            Matcher methods = method.matcher(line);
            if (types.find()) {
                inType = types.group(1);
            } else if (methods.find() && !line.contains(" if (") && !line.contains(" for (")) {
                inMethod = methods.group(1);
            } else if (maker.matcher(line).find()) {
                made++;
                check.holds(inMethod + " makes nothing: " + line.trim(), inMethod.equals(inType));
            }
        }
        check.holds("there is something made: " + made, made > 20);
    }

    private static void newObject() throws Exception {
        objects = 0;
        elements = 0;
        count(new DistrictCutter(), new IdentityHashMap<>());
        check.holds("a new object is " + objects + " objects and arrays", objects * (CALLS + 1) <= MOST_OBJECTS);
        check.holds("a new object has " + elements + " fields and elements", elements * (CALLS + 1) <= MOST_ELEMENTS);
        String told = objects + " objects and arrays with " + elements + " fields and elements";
        String readme = Files.readString(Path.of("README.md")).replaceAll("\\s+", " ");
        check.holds("README.md tells of " + told, readme.contains("A new object is " + told));
    }

    private static void count(Object thing, Map<Object, Boolean> known) throws Exception {
        if (thing == null || known.put(thing, true) != null) {
            return;
        }
        objects++;
        if (thing.getClass().isArray()) {
            elements += Array.getLength(thing);
            return;
        }
        for (Field field : thing.getClass().getDeclaredFields()) {
            if (!Modifier.isStatic(field.getModifiers())) {
                elements++;
                field.setAccessible(true);
                if (!field.getType().isPrimitive()) {
                    count(field.get(thing), known);
                }
            }
        }
    }

    private static long made() {
        com.sun.management.ThreadMXBean bean = (com.sun.management.ThreadMXBean) ManagementFactory.getThreadMXBean();
        return bean.getThreadAllocatedBytes(Thread.currentThread().getId());
    }

    /** Places come one by one, and all bounds of cuts with them; the first round only warms the machine. */
    private static void growingLands(boolean judged) {
        for (int shape = 0; shape < GrowingLand.SHAPES; shape++) {
            for (int towns = 0; towns < GrowingLand.TOWN_KINDS; towns++) {
                for (int k = 1; k <= 6; k++) {
                    GrowingLand land = new GrowingLand(shape, towns, k, 1000);
                    made();
                    long before = made();
                    growWithCalls(land);
                    long all = made() - before;
                    if (judged) {
                        check.holds("shape " + shape + ", towns " + towns + ", K " + k + ": " + land.calls
                            + " calls made " + all + " bytes", all < NEXT_TO_NOTHING && land.calls <= CALLS);
                    }
                }
            }
        }
    }

    private static void growWithCalls(GrowingLand land) {
        for (int n = 1; n <= GrowingLand.MOST; n++) {
            land.grow();
            for (int cuts = 0; cuts <= 10; cuts++) {
                land.cuts(cuts);
                land.count();
                if ((cuts + n) % 3 == 0) {
                    land.least(cuts % 7);
                    land.among(n % 7, cuts % 3);
                }
            }
        }
    }

    /** Twelve places in six towns of two each, K = 6: each bound of cuts asks for more than the one before. */
    private static void boundsThatRise() {
        GrowingLand land = new GrowingLand(0, 1, 6, 1000);
        for (int n = 1; n <= GrowingLand.MOST; n++) {
            land.grow();
        }
        made();
        long before = made();
        for (int i = 0; i < 60; i++) {
            land.cuts(i % 6);
            land.count();
            land.x.kth(i);
            land.x.which();
            land.x.same(i);
            land.least(i % 7);
            land.among(i % 7, i % 3);
        }
        long all = made() - before;
        check.holds("bounds that rise made " + all + " bytes", all < NEXT_TO_NOTHING);
    }

    private static void walkCalls(boolean judged) {
        DistrictCutter x = new DistrictCutter();
        made();
        long before = made();
        for (int p = 0; p < 30; p++) {
            x.place(1, p, 30 - p, 1, p % 10);
        }
        int borders = 0;
        for (int gap = 1; gap < 30 && borders < 100; gap++) {
            for (int p = 0; p + gap < 30; p++) {
                borders += x.border(p, p + gap, gap) >= 0 ? 1 : 0;
            }
        }
        x.law(2, 900);
        for (int p = 0; p < 30; p++) {
            x.put(p, p / 15);
        }
        int lawful = x.lawful();
        for (int i = 0; i < 85; i++) {
            x.walk(200, i, i % 7);
            x.step(i);
            x.better();
            x.mend(2);
        }
        long all = made() - before;
        if (judged) {
            check.due("all borders", x.land(1), 100);
            check.due("lawful", lawful, 0);
            check.holds("the walks made " + all + " bytes", all < NEXT_TO_NOTHING);
        }
    }
}

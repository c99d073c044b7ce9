/** Calls told as text, one behind the other: "put(1, 1) = 0; at(1) = 1"; a call without a due answer is only made. */
final class Script {
    private static final String[] WORDS = {"NONE", "FULL", "KIND", "BIG", "EMPTY", "MIN", "MAX"};
    private static final int[] VALUES = {-1, -2, -3, -4, -5, Integer.MIN_VALUE, Integer.MAX_VALUE};

    private Script() {
    }

    static DistrictCutter made(String calls) {
        DistrictCutter x = new DistrictCutter();
        run(null, "", x, calls);
        return x;
    }

    /** Each answer that is told is asked of the check. */
    static void run(Check check, String where, DistrictCutter x, String calls) {
        for (String row : calls.split(";")) {
            if (row.isBlank()) {
                continue;
            }
            String[] sides = row.split("=");
            String call = sides[0].trim();
            int got = ask(x, call);
            if (sides.length > 1) {
                check.due(where + call, got, number(sides[1]));
            }
        }
    }

    static int ask(DistrictCutter x, String call) {
        String inside = call.substring(call.indexOf('(') + 1, call.lastIndexOf(')'));
        String[] parts = inside.isBlank() ? new String[0] : inside.split(",");
        int[] a = new int[parts.length];
        for (int i = 0; i < a.length; i++) {
            a[i] = number(parts[i]);
        }
        return ask(x, nameOf(call), a);
    }

    static String nameOf(String call) {
        return call.substring(0, call.indexOf('(')).trim();
    }

    static int number(String text) {
        for (int i = 0; i < WORDS.length; i++) {
            if (text.trim().equals(WORDS[i])) {
                return VALUES[i];
            }
        }
        return Integer.parseInt(text.trim());
    }

    private static int ask(DistrictCutter x, String name, int[] a) {
        switch (name) {
            case "place": return x.place(a[0], a[1], a[2], a[3], a[4]);
            case "border": return x.border(a[0], a[1], a[2]);
            case "law": return x.law(a[0], a[1]);
            case "keep": return x.keep(a[0], a[1]);
            case "cuts": return x.cuts(a[0]);
            case "fix": return x.fix(a[0], a[1]);
            case "people": return x.people(a[0], a[1]);
            case "put": return x.put(a[0], a[1]);
            case "at": return x.at(a[0]);
            case "lawful": return x.lawful();
            case "why": return x.why(a[0]);
            case "measure": return x.measure(a[0]);
            case "district": return x.district(a[0], a[1]);
            case "land": return x.land(a[0]);
            case "count": return x.count();
            case "kth": return x.kth(a[0]);
            case "which": return x.which();
            case "same": return x.same(a[0]);
            case "least": return x.least(a[0]);
            case "among": return x.among(a[0], a[1]);
            case "step": return x.step(a[0]);
            case "walk": return x.walk(a[0], a[1], a[2]);
            case "seen": return x.seen(a[0]);
            case "better": return x.better();
            case "mend": return x.mend(a[0]);
            default: throw new IllegalArgumentException("no such call: " + name);
        }
    }
}

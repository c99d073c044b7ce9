import java.util.TreeSet;

/**
 * Sentences of part 5: what each call refuses, in which order, and that a refused call changes nothing; and that of
 * the 512 calls. What a call has changed is told by a twin, made by the same calls but for the one that was refused:
 * both are asked the same questions then, of which many change something themselves.
 */
final class RefusalSentences {
    private static final String FACE = "among at better border count cuts district fix keep kth land law lawful least measure "
        + "mend people place put same seen step walk which why";
    private static final int MOST_CALLS = 512;

    private static final String WRONG_NUMBERS = "place(-1, 1, 1, 1, 1) = NONE; place(1001, 1, 1, 1, 1) = NONE;"
        + "place(1, -1, 1, 1, 1) = NONE; place(1, 1001, 1, 1, 1) = NONE; place(1, 1, -1, 1, 1) = NONE;"
        + "place(1, 1, 1001, 1, 1) = NONE; place(1, 1, 1, 0, 1) = NONE; place(1, 1, 1, 101, 1) = NONE;"
        + "place(1, 1, 1, 1, -1) = NONE; place(1, 1, 1, 1, 10) = NONE; border(-1, 0, 1) = NONE; border(0, -1, 1) = NONE;"
        + "border(30, 0, 1) = NONE; border(0, 30, 1) = NONE; border(0, 0, 1) = NONE; law(0, 5) = NONE; law(7, 5) = NONE;"
        + "law(1, -1) = NONE; law(1, 1001) = NONE; keep(-1, 1) = NONE; keep(10, 1) = NONE; keep(4, -1) = NONE; keep(4, 2) = NONE;"
        + "keep(5, 2) = NONE; cuts(-1) = NONE; cuts(11) = NONE; fix(-1, 0) = NONE; fix(30, 0) = NONE; fix(0, 6) = NONE;"
        + "fix(0, -2) = NONE; people(-1, 5) = NONE; people(30, 5) = NONE; people(0, -1) = NONE; people(0, 1001) = NONE;"
        + "put(-1, 0) = NONE; put(30, 0) = NONE; put(0, 6) = NONE; put(0, -1) = NONE; at(-1) = NONE; at(30) = NONE;"
        + "why(3) = NONE; why(-1) = NONE; measure(-1) = NONE; measure(7) = NONE; district(-1, 0) = NONE; district(6, 0) = NONE;"
        + "district(0, 8) = NONE; district(0, -1) = NONE; land(-1) = NONE; land(7) = NONE; least(-1) = NONE; least(7) = NONE;"
        + "among(-1, 0) = NONE; among(7, 0) = NONE; among(0, -1) = NONE; among(0, 3) = NONE; walk(0, 1, 0) = NONE;"
        + "walk(201, 1, 0) = NONE; walk(5, 1, -1) = NONE; walk(5, 1, 7) = NONE; seen(-1) = NONE; seen(6) = NONE; mend(-1) = NONE;"
        + "mend(3) = NONE;";
    private static final String BIG_LAND = "count() = BIG; kth(0) = BIG; kth(-1) = BIG; which() = BIG; same(0) = BIG;"
        + "same(-1) = BIG; least(0) = BIG; among(0, 0) = BIG;";
    private static final String NOT_LAWFUL = "step(7) = KIND; walk(5, 7, 1) = KIND; better() = KIND;";
    private static final String UNSEEN = "seen(0) = NONE; seen(1) = NONE; seen(2) = NONE; seen(3) = NONE; seen(4) = NONE;"
        + "seen(5) = NONE;";

    private static final String[][] STATES = {
        {"no places", WRONG_NUMBERS + UNSEEN + "border(0, 1, 1) = NONE; fix(0, 0) = NONE; fix(0, -1) = NONE; people(0, 5) = NONE;"
            + "put(0, 0) = NONE; at(0) = NONE; lawful() = EMPTY; why(0) = NONE; district(3, 0) = NONE; count() = EMPTY;"
            + "kth(0) = EMPTY; kth(-1) = EMPTY; which() = EMPTY; same(0) = EMPTY; same(-1) = EMPTY; least(0) = EMPTY;"
            + "among(0, 0) = EMPTY; step(7) = EMPTY; walk(5, 7, 1) = EMPTY; better() = EMPTY; mend(0) = EMPTY; mend(2) = EMPTY"},
        {"lawful", WRONG_NUMBERS + "why(0) = NONE; why(1) = NONE; border(0, 6, 1) = NONE; border(6, 0, 1) = NONE;"
            + "border(1, 0, 7) = NONE; border(0, 1, 7) = NONE; border(0, 2, 0) = NONE; border(0, 2, 101) = NONE; fix(6, 0) = NONE;"
            + "fix(0, 3) = NONE; fix(3, -2) = NONE; fix(3, 3) = NONE; fix(3, MIN) = NONE; people(6, 5) = NONE; put(6, 0) = NONE; put(0, 3) = NONE; at(6) = NONE; district(3, 0) = NONE;"
            + "kth(-1) = NONE; kth(9) = NONE; kth(MAX) = NONE; same(-1) = NONE; same(9) = NONE; same(MIN) = NONE"},
        {"unlawful", WRONG_NUMBERS + NOT_LAWFUL + "which() = NONE; kth(9) = NONE; why(1) = NONE; why(2) = NONE"},
        {"never walked", UNSEEN + NOT_LAWFUL + "walk(0, 7, 1) = NONE; walk(5, 7, 9) = NONE"},
        {"13 places", WRONG_NUMBERS + BIG_LAND},
        {"13 places, unlawful", BIG_LAND + NOT_LAWFUL},
        {"full", WRONG_NUMBERS + BIG_LAND + "place(1, 2, 3, 4, 5) = FULL; border(12, 14, 5) = FULL; border(20, 29, 5) = FULL;"
            + "border(0, 1, 5) = NONE; border(12, 14, 0) = NONE"},
        {"too many classes", WRONG_NUMBERS + "least(0) = BIG; least(6) = BIG; among(0, 0) = BIG; among(6, 2) = BIG;"
            + "kth(86526) = NONE; same(86526) = NONE; least(7) = NONE; among(0, 3) = NONE"},
    };

    private final Sentences s;

    RefusalSentences(Sentences s) {
        this.s = s;
    }

    void test() {
        order();
        none();
        empty();
        changesNothing();
        lastCall();
    }

    private void order() {
        s.ofTerms("REFUSALS, in the order in which a call names them:");
        s.run(made("full"), "place(-1, 1, 1, 1, 1) = NONE; place(1, 1, 1, 1, 1) = FULL; border(0, 0, 1) = NONE; border(12, 14, 1) = FULL");
        s.run(made("13 places, unlawful"), "least(7) = NONE; least(0) = BIG; among(0, 3) = NONE; among(0, 0) = BIG; which() = BIG;"
            + "kth(-1) = BIG; same(-1) = BIG; walk(0, 1, 0) = NONE; walk(1, 1, 0) = KIND");
        s.run(made("no places"), "least(7) = NONE; least(0) = EMPTY; among(7, 0) = NONE; among(0, 0) = EMPTY; kth(-1) = EMPTY;"
            + "same(-1) = EMPTY; which() = EMPTY; walk(1, 1, 7) = NONE; walk(1, 1, 0) = EMPTY; step(1) = EMPTY; better() = EMPTY;"
            + "mend(3) = NONE; mend(1) = EMPTY");
    }

    private void none() {
        s.ofTerms("NONE (-1): there is no such place, district, border, town, or a number is not as said;");
        s.due("NONE", DistrictCutter.NONE, -1);
        s.run(made("lawful"), "at(6) = -1; put(6, 0) = -1; put(0, 3) = -1; district(3, 0) = -1; keep(10, 0) = -1; cuts(11) = -1;"
            + "people(0, 1001) = -1; border(0, 2, 101) = -1; at(5) = 2; put(5, 2) = 2; district(2, 0) = 2");
    }

    private void empty() {
        s.ofTerms("EMPTY (-5): there are no places.");
        s.due("EMPTY", DistrictCutter.EMPTY, -5);
        s.run("lawful() = -5; count() = -5; kth(0) = -5; which() = -5; same(0) = -5; least(0) = -5; among(0, 0) = -5; step(0) = -5;"
            + "walk(1, 0, 0) = -5; better() = -5; mend(0) = -5");
        s.run("place(0, 0, 0, 1, 0) = 0; law(1, 0); lawful() = 0; count() = 1; kth(0) = 1; which() = 0; same(0) = 1; least(0) = 0;"
            + "among(0, 1) = 1; step(0) = 0; walk(1, 0, 0) = 0; better() = 0; mend(0) = 0");
    }

    private void changesNothing() {
        s.ofTerms("A refused call changes nothing.");
        TreeSet<String> met = new TreeSet<>();
        for (String[] state : STATES) {
            Questions due = new Questions(made(state[0]));
            for (String row : state[1].split(";")) {
                String call = row.split("=")[0].trim();
                met.add(Script.nameOf(call));
                DistrictCutter x = made(state[0]);
                s.run(x, row);
                s.run(x, row);
                s.due(state[0] + ", " + call + ": answers that are others then", new Questions(x).others(due), 0);
            }
        }
        s.holds("each call is refused: " + met, String.join(" ", met).equals(FACE));
        for (String state : new String[] {"unlawful", "13 places, unlawful", "full"}) {
            DistrictCutter x = made(state);
            s.run(x, "law(6, 0); mend(2) = -6");
            s.due(state + ", no mending", x.district(0, 0), x.land(0));
        }
    }

    private static DistrictCutter made(String state) {
        switch (state) {
            case "no places":
                return Script.made("law(3, 50); keep(4, 1); cuts(7)");
            case "lawful":
                return Script.made(grid() + "walk(9, 3, 0)");
            case "unlawful":
                return Script.made(grid() + "walk(9, 3, 0); put(5, 1)");
            case "never walked":
                return Script.made(grid() + "put(5, 1)");
            case "13 places":
                return thirteen();
            case "13 places, unlawful":
                DistrictCutter unlawful = thirteen();
                unlawful.put(12, 0);
                return unlawful;
            case "full":
                return full();
            default:
                DistrictCutter many = Lands.full(12, false);
                Script.run(null, "", many, "law(3, 0); put(0, 1); put(1, 2); keep(4, 1); cuts(9); fix(0, 1); walk(9, 3, 0)");
                return many;
        }
    }

    /** Two rows of three places; columns are districts. */
    private static String grid() {
        return "place(10, 3, 4, 1, 0); place(11, 9, 2, 2, 1); place(12, 5, 5, 3, 2); place(12, 1, 7, 4, 3); place(11, 6, 1, 5, 4);"
            + "place(10, 2, 8, 6, 0); border(0, 1, 4); border(1, 2, 6); border(3, 4, 5); border(4, 5, 3); border(0, 3, 2);"
            + "border(1, 4, 8); border(2, 5, 7); law(3, 300); put(1, 1); put(4, 1); put(2, 2); put(5, 2); keep(4, 1); cuts(7);"
            + "fix(3, 0);";
    }

    private static DistrictCutter thirteen() {
        int[] people = {3, 1, 4, 1, 5, 9, 2, 6, 5, 3, 5, 8, 9};
        DistrictCutter x = Lands.line(people, 3, 8, 4, 6, 2, 6, 4, 3, 3, 8, 3, 2);
        Script.run(null, "", x, "law(2, 900); put(12, 1); keep(5, 1); cuts(8); fix(12, 1); walk(9, 3, 0)");
        return x;
    }

    /** 30 places and 100 borders: fifteen places that are nearly all neighbours, and a line. */
    private static DistrictCutter full() {
        DistrictCutter x = new DistrictCutter();
        for (int p = 0; p < 30; p++) {
            x.place(10 + p % 3, p, 30 - p, 1 + p, p % 10);
        }
        int made = 0;
        for (int p = 1; p < 30; p++) {
            made = x.border(p - 1, p, 1 + p);
        }
        for (int p = 2; p < 15; p++) {
            for (int q = 0; q + 1 < p && made < 99; q++) {
                made = x.border(p, q, 1 + p * q % 9);
            }
        }
        Script.run(null, "", x, "law(2, 900); put(29, 1); put(28, 1); cuts(9); fix(0, 0); walk(9, 3, 0)");
        return x;
    }

    private void lastCall() {
        s.of("What it is", "An object is used for at most 512 calls after it has been made; what later calls answer is free.");
        String[] last = {"place(1, 1, 1, 1, 1)", "border(0, 4, 9)", "law(6, 1)", "keep(4, 0)", "cuts(2)", "fix(3, -1)",
            "people(2, 77)", "put(0, 2)", "at(5)", "lawful()", "why(0)", "measure(0)", "district(2, 5)", "land(2)", "count()",
            "kth(0)", "which()", "same(0)", "least(0)", "among(0, 2)", "step(5)", "walk(200, 5, 0)", "seen(1)", "better()",
            "mend(2)", "at(6)", "walk(201, 5, 0)"};
        TreeSet<String> met = new TreeSet<>();
        int made = grid().split(";").length;
        for (String call : last) {
            met.add(Script.nameOf(call));
            int due = Script.ask(Script.made(grid() + "walk(4, 1, 0)"), call);
            DistrictCutter x = Script.made(grid());
            for (int calls = made + 1; calls < MOST_CALLS - 1; calls++) {
                askOnly(x, calls);
            }
            Script.run(null, "", x, "walk(4, 1, 0)");
            s.due("call 512: " + call, Script.ask(x, call), due);
        }
        s.holds("each call is the last one: " + met, String.join(" ", met).equals(FACE));
        placesAndBordersLast();
    }

    /** Calls of many kinds that leave all as it was. */
    private static void askOnly(DistrictCutter x, int number) {
        String[] calls = {"count()", "walk(200, 9, 6)", "mend(2)", "least(0)", "place(-1, 0, 0, 1, 0)", "keep(4, 1)", "cuts(7)",
            "fix(3, 0)", "people(5, 10)", "put(1, 1)", "which()", "same(1)", "among(0, 1)", "lawful()", "border(0, 1, 4)",
            "kth(-1)", "seen(3)", "district(1, 6)", "measure(0)"};
        Script.ask(x, calls[number % calls.length]);
    }

    /** As many places and borders as there can be, and what is left of the 512 calls. */
    private void placesAndBordersLast() {
        DistrictCutter x = full();
        int asked = 30 + 100 + 6;
        while (asked < MOST_CALLS - 1) {
            asked++;
            x.walk(1, asked, 0);
        }
        s.due("call 512: a walk of 200 steps", x.walk(200, 8, 0), full().walk(200, 8, 0));
    }

    /** The answers to many questions, with which all that an object holds comes to light. */
    private static final class Questions {
        private final int[] answers = new int[MOST_CALLS];
        private int asked;

        Questions(DistrictCutter x) {
            look(x);
            walkOn(x);
            change(x);
        }

        private void ask(DistrictCutter x, String... calls) {
            for (String call : calls) {
                answers[asked] = Script.ask(x, call);
                asked++;
            }
        }

        int others(Questions due) {
            int found = Math.abs(asked - due.asked);
            for (int i = 0; i < asked; i++) {
                found += answers[i] == due.answers[i] ? 0 : 1;
            }
            return found;
        }

        private void look(DistrictCutter x) {
            for (int i = 0; i < 30; i++) {
                ask(x, "at(" + i + ")");
            }
            for (int i = 0; i < 7; i++) {
                ask(x, "land(" + i + ")", "seen(" + i + ")", "measure(" + i + ")");
            }
            ask(x, "lawful()", "why(0)", "why(1)", "why(2)", "count()", "which()", "same(0)");
            for (int d = 0; d < 3; d++) {
                for (int what = 0; what < 8; what++) {
                    ask(x, "district(" + d + ", " + what + ")");
                }
            }
        }

        private void walkOn(DistrictCutter x) {
            ask(x, "walk(20, 5, 0)", "seen(0)", "seen(1)", "seen(4)", "seen(5)", "step(77)", "measure(0)", "better()", "measure(0)");
        }

        private void change(DistrictCutter x) {
            for (int p = 0; p < 30; p++) {
                ask(x, "fix(" + p + ", -1)", "people(" + p + ", 1)", "put(" + p + ", " + p % 2 + ")");
            }
            ask(x, "measure(0)", "measure(1)", "measure(4)");
            for (int town = 0; town < 10; town++) {
                ask(x, "keep(" + town + ", 0)");
            }
            ask(x, "cuts(10)", "count()", "kth(0)", "measure(0)", "place(1, 2, 3, 4, 5)", "border(0, 12, 7)", "border(0, 5, 7)");
        }
    }
}

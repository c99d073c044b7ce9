/** Promises 25 and 26: changes for a lesser edge, and changes that move the fewest people. */
public final class ChangesTest {
    private static final Check check = new Check();
    private static final int NONE = -1;
    private static final int KIND = -3;
    private static final int EMPTY = -5;

    public static void main(String[] args) {
        betterRefusals();
        betterByLeastPlace();
        betterToLeastDistrict();
        betterInRow();
        betterWithinLaw();
        mendRefusals();
        mendLawful();
        mendFewestPeople();
        mendFewestPlaces();
        mendFirstDistricts();
        mendNone();
        mendOfManyPlaces();
        check.end("ChangesTest");
    }

    private static void betterRefusals() {
        check.due("better", new DistrictCutter().better(), EMPTY);
        DistrictCutter x = Lands.line(new int[] {1, 1});
        check.due("better", x.better(), KIND);
        x.put(1, 1);
        check.due("better", x.better(), 0);
        Lands.ats(check, "better", x, 0, 1);
    }

    private static void betterByLeastPlace() {
        DistrictCutter x = Lands.line(new int[] {1, 1, 1, 1}, 5, 9, 3);
        x.law(2, 1000);
        Lands.puts(x, 0, 0, 1, 1);
        check.due("better", x.better(), 1);
        Lands.ats(check, "place 1, though place 2 would do more", x, 0, 1, 1, 1);
        check.due("edge", x.measure(0), 5);
        check.due("better again", x.better(), 0);
    }

    private static void betterToLeastDistrict() {
        // place 0 has neighbours in three districts: 1 and 2 are both better than its own
        DistrictCutter x = new DistrictCutter();
        for (int p = 0; p < 4; p++) {
            x.place(0, 0, 0, 1, 0);
        }
        x.border(0, 1, 1);
        x.border(0, 2, 5);
        x.border(0, 3, 2);
        x.law(3, 0);
        Lands.puts(x, 0, 0, 2, 1);
        // to 1 first (the edge falls from 7 to 6), then to 2 (to 3)
        check.due("better", x.better(), 2);
        Lands.ats(check, "better", x, 2, 0, 2, 1);
        check.due("edge", x.measure(0), 3);
    }

    private static void betterInRow() {
        DistrictCutter x = Lands.line(new int[] {0, 0, 0, 0, 0, 0}, 1, 2, 3, 4, 5);
        Lands.puts(x, 0, 0, 0, 0, 0, 1);
        check.due("better", x.better(), 4);
        Lands.ats(check, "better", x, 0, 1, 1, 1, 1, 1);
        DistrictCutter y = Lands.line(new int[] {0, 0, 0}, 4, 4);
        Lands.puts(y, 0, 0, 1);
        check.due("as much is not less", y.better(), 0);
    }

    private static void betterWithinLaw() {
        DistrictCutter x = Lands.line(new int[] {1, 1, 1, 1}, 5, 9, 3);
        x.law(2, 0);
        Lands.puts(x, 0, 0, 1, 1);
        check.due("sizes bind", x.better(), 0);
        x.law(2, 1000);
        Lands.puts(x, 0, 0, 1, 1);
        x.fix(1, 0);
        check.due("a fixed place stays", x.better(), 1);
        Lands.ats(check, "place 2 then", x, 0, 0, 0, 1);
    }

    private static void mendRefusals() {
        DistrictCutter none = new DistrictCutter();
        check.due("mend(0)", none.mend(0), EMPTY);
        check.due("mend(3)", none.mend(3), NONE);
        DistrictCutter x = Lands.line(new int[] {1, 1});
        check.due("mend(-1)", x.mend(-1), NONE);
        check.due("mend(3)", x.mend(3), NONE);
        Lands.ats(check, "refused", x, 0, 0);
    }

    private static void mendLawful() {
        DistrictCutter x = Lands.line(new int[] {1, 1});
        Lands.puts(x, 1, 0);
        for (int n = 0; n <= 2; n++) {
            check.due("lawful already", x.mend(n), 0);
            Lands.ats(check, "lawful already", x, 1, 0);
        }
    }

    private static void mendFewestPeople() {
        DistrictCutter x = Lands.line(new int[] {5, 3, 3, 5});
        x.law(2, 0);
        Lands.puts(x, 0, 1, 1, 1);
        check.due("mend(0)", x.mend(0), -6);
        check.due("mend(1)", x.mend(1), 3);
        Lands.ats(check, "mend(1)", x, 0, 0, 1, 1);
        // two light places rather than one heavy one
        DistrictCutter y = Lands.line(new int[] {9, 1, 1, 9, 1});
        y.law(2, 1000);
        Lands.puts(y, 0, 1, 1, 0, 1);
        check.due("mend(1)", y.mend(1), 9);
        Lands.ats(check, "mend(1)", y, 0, 1, 1, 1, 1);
        Lands.puts(y, 0, 1, 1, 0, 1);
        check.due("mend(2)", y.mend(2), 2);
        Lands.ats(check, "mend(2)", y, 0, 0, 0, 0, 1);
    }

    private static void mendFewestPlaces() {
        // nobody in 1 and 2: one of them is moved, not both; of the two ways the first districts
        DistrictCutter x = Lands.line(new int[] {4, 0, 0, 4});
        x.law(2, 0);
        Lands.puts(x, 0, 1, 0, 1);
        check.due("mend(2)", x.mend(2), 0);
        Lands.ats(check, "mend(2)", x, 0, 0, 0, 1);
    }

    private static void mendFirstDistricts() {
        DistrictCutter x = Lands.line(new int[] {5, 3, 3, 5});
        x.law(2, 0);
        check.due("mend(2)", x.mend(2), 8);
        Lands.ats(check, "the first districts", x, 0, 0, 1, 1);
        x.law(2, 0);
        Lands.puts(x, 1, 1, 1, 1);
        check.due("mend(2) from 1", x.mend(2), 8);
        Lands.ats(check, "the first districts", x, 0, 0, 1, 1);
        DistrictCutter y = Lands.line(new int[] {1, 1, 1});
        y.law(3, 0);
        check.due("three districts", y.mend(2), 2);
        Lands.ats(check, "three districts", y, 0, 1, 2);
    }

    private static void mendNone() {
        DistrictCutter x = Lands.line(new int[] {1, 1, 1, 1});
        x.law(4, 0);
        check.due("three are elsewhere", x.mend(2), -6);
        Lands.ats(check, "none", x, 0, 0, 0, 0);
        x.law(1, 0);
        x.fix(0, 0);
        check.due("one district", x.mend(2), 0);
        DistrictCutter y = Lands.line(new int[] {1, 1});
        y.fix(0, 1);
        check.due("fixed", y.mend(1), 1);
        Lands.ats(check, "fixed", y, 1, 0);
    }

    private static void mendOfManyPlaces() {
        int[] people = new int[30];
        java.util.Arrays.fill(people, 1);
        DistrictCutter x = Lands.line(people);
        x.law(6, 0);
        for (int p = 0; p < 30; p++) {
            x.put(p, p / 5);
        }
        x.put(4, 1);
        x.put(29, 4);
        check.due("lawful", x.lawful(), 2);
        check.due("mend(1)", x.mend(1), -6);
        check.due("mend(2)", x.mend(2), 2);
        check.due("at(4)", x.at(4), 0);
        check.due("at(29)", x.at(29), 5);
        check.due("lawful", x.lawful(), 0);
    }
}

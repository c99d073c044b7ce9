/** Small lands of which the answers can be told by hand. */
final class Lands {
    private Lands() {
    }

    /** Places in a row, each in a town of its own while there are towns, borders of these lengths between them. */
    static DistrictCutter line(int[] people, int... lengths) {
        DistrictCutter x = new DistrictCutter();
        for (int p = 0; p < people.length; p++) {
            x.place(people[p], 0, 0, 1, p % 10);
        }
        for (int p = 0; p + 1 < people.length; p++) {
            x.border(p, p + 1, lengths.length == 0 ? 1 : lengths[p]);
        }
        return x;
    }

    /** Places of which each is the neighbour of each, nobody in them, all in towns of their own or in town 0. */
    static DistrictCutter full(int places, boolean oneTown) {
        DistrictCutter x = new DistrictCutter();
        for (int p = 0; p < places; p++) {
            x.place(0, 0, 0, 1, oneTown ? 0 : p % 10);
        }
        for (int p = 0; p < places; p++) {
            for (int q = 0; q < p; q++) {
                x.border(q, p, 1 + (p * q) % 3);
            }
        }
        return x;
    }

    static void puts(DistrictCutter x, int... districts) {
        for (int p = 0; p < districts.length; p++) {
            x.put(p, districts[p]);
        }
    }

    static void ats(Check check, String behind, DistrictCutter x, int... districts) {
        for (int p = 0; p < districts.length; p++) {
            check.due(behind + ": at(" + p + ")", x.at(p), districts[p]);
        }
        check.due(behind + ": places", x.land(0), districts.length);
    }
}

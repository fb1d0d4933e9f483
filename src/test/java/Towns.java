import java.util.function.Supplier;

/** Towns for tests, and how their accounts are brought to a number. */
final class Towns {
    /** A plot that the towns of these tests leave free. */
    private static final int SPARE = 24;
    private static final int PART = 100;

    private Towns() {
    }

    /** As Checks.laid, but for towns of more than twelve buildings: bonds are taken up for the others. */
    static Hundredward large(String... rows) {
        Hundredward town = new Hundredward();
        town.borrow(500);
        for (int plot = 0; plot < 25; plot++) {
            char kind = rows[plot / 5].charAt(plot % 5);
            if (kind != '.') {
                Checks.due("build for a test", town.build(plot, kind), true);
            }
        }
        return town;
    }

    /** Households of skill 0, each with its money. */
    static Hundredward peopled(Hundredward town, int... money) {
        for (int each : money) {
            town.arrive(0, each);
        }
        return town;
    }

    /** Households with 100 each, each with its skill. */
    static Hundredward skilled(Hundredward town, int... skills) {
        for (int each : skills) {
            town.arrive(each, 100);
        }
        return town;
    }

    /** Brings the treasury to a number by roads that are built and taken down, and by a few bonds. */
    static Hundredward treasury(Hundredward town, int left) {
        spend(town, left + 40);
        if (town.balance(0) > left) {
            town.borrow(40 - (town.balance(0) - left));
            spend(town, left + 40);
        }
        if (town.balance(0) < left) {
            town.borrow(left - town.balance(0));
        }
        Checks.due("the treasury of a test", town.balance(0), left);
        return town;
    }

    /** Builds and takes down a road as long as the treasury has so much. */
    static void spend(Hundredward town, int most) {
        for (int i = 0; i < 100 && town.balance(0) >= most; i++) {
            town.build(SPARE, 'r');
            town.takeDown(SPARE);
        }
    }

    /** Brings the bank to a number by bonds. */
    static Hundredward bank(Hundredward town, int left) {
        for (int i = 0; i < 3 && town.balance(1) > left; i++) {
            town.borrow(Math.min(999, town.balance(1) - left));
        }
        Checks.due("the bank of a test", town.balance(1), left);
        return town;
    }

    /** Lets a day go by, and answers its entries, each as from>to:amount. */
    static String day(Hundredward town) {
        int before = town.entries();
        town.pass(1);
        return since(town, before);
    }

    static String since(Hundredward town, int before) {
        StringBuilder text = new StringBuilder();
        int end = town.entries();
        for (int i = before; i < end; i++) {
            text.append(i > before ? " " : "").append(town.entry(i, 0)).append('>').append(town.entry(i, 1));
            text.append(':').append(town.entry(i, 2));
        }
        return text.toString();
    }

    /** The whole journal; of a long one each town tells a part, as none is used for more than 512 calls. */
    static int[][] journal(Supplier<Hundredward> made) {
        int[][] all = new int[made.get().entries()][];
        for (int first = 0; first < all.length; first += PART) {
            Hundredward town = made.get();
            for (int i = first; i < Math.min(all.length, first + PART); i++) {
                all[i] = new int[] {town.entry(i, 0), town.entry(i, 1), town.entry(i, 2)};
            }
        }
        return all;
    }

    /** Whether an entry is among those that day() or since() answered. */
    static boolean has(String entries, String entry) {
        return (" " + entries + " ").contains(" " + entry + " ");
    }
}

import java.util.function.Supplier;

/** Numbers at the edges of a range, each asked of a town of its own. */
final class Ranges {
    interface OfNumber {
        Object answer(Hundredward town, int number);
    }

    private static final int[] FAR = {Integer.MIN_VALUE, Integer.MIN_VALUE + 1, -1000, 1 << 16, 1 << 20,
        Integer.MAX_VALUE - 1, Integer.MAX_VALUE};

    private Ranges() {
    }

    /** From the least number to the most one the call answers, and beyond both it throws. */
    static void within(int least, int most, Class<? extends RuntimeException> beyond, Supplier<Hundredward> towns,
            OfNumber call) {
        for (int number : new int[] {least, Math.min(most, least + 1), Math.max(least, most - 1), most}) {
            Object got;
            try {
                got = call.answer(towns.get(), number) == null ? "nothing" : "an answer";
            } catch (RuntimeException e) {
                got = e.getClass();
            }
            Checks.due("within: " + number, got, "an answer");
        }
        beyond(least, most, beyond, towns, call);
    }

    /** Beyond the least number and the most one the call throws. */
    static void beyond(int least, int most, Class<? extends RuntimeException> beyond, Supplier<Hundredward> towns,
            OfNumber call) {
        for (int number : new int[] {least - 1, most + 1}) {
            Checks.throwing("beyond: " + number, beyond, () -> call.answer(towns.get(), number));
        }
        for (int number : FAR) {
            Checks.throwing("far beyond: " + number, beyond, () -> call.answer(towns.get(), number));
        }
    }

    /** The plots 0 to 24 answer, all other numbers are out of bounds. */
    static void plots(Supplier<Hundredward> towns, OfNumber call) {
        Hundredward town = towns.get();
        for (int plot = 0; plot <= 24; plot++) {
            Checks.due("plot " + plot + " answers", call.answer(town, plot) != null, true);
        }
        within(0, 24, IndexOutOfBoundsException.class, towns, call);
    }

    /** As plots, for calls that throw another exception on an empty plot. */
    static void plotsThat(Class<? extends RuntimeException> where, Supplier<Hundredward> towns, OfNumber call) {
        for (int plot = 0; plot <= 24; plot++) {
            int on = plot;
            Checks.throwing("plot " + plot, where, () -> call.answer(towns.get(), on));
        }
        beyond(0, 24, IndexOutOfBoundsException.class, towns, call);
    }
}

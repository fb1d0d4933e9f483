import java.util.function.Supplier;

/**
 * All that a town answers, as one text, to compare one town with another. A town is used for at most 512 calls, so that
 * each part of the text is asked of a town of its own, all of them made in the same way.
 */
final class State {
    private static final int ROWS = 5;
    private static final int ROW = 5;

    private State() {
    }

    static String of(Supplier<Hundredward> made) {
        StringBuilder text = new StringBuilder();
        plots(made.get(), text);
        for (int row = 0; row < ROWS; row++) {
            ways(made.get(), text, row * ROW);
        }
        people(made.get(), text);
        accounts(made.get(), text);
        for (int[] entry : Towns.journal(made)) {
            text.append(' ').append(entry[0]).append('>').append(entry[1]).append(':').append(entry[2]);
        }
        return text.toString();
    }

    /** Where two of those texts begin to differ. */
    static String change(String before, String after) {
        int end = Math.min(before.length(), after.length());
        for (int i = 0; i < end; i++) {
            if (before.charAt(i) != after.charAt(i)) {
                return before.substring(i, Math.min(end, i + 30)) + " became " + after.substring(i, Math.min(end, i + 30));
            }
        }
        return before.length() == after.length() ? "none" : "another length";
    }

    private static void plots(Hundredward town, StringBuilder text) {
        for (int i = 0; i < ROWS * ROW; i++) {
            int plot = i;
            text.append(town.builtOn(i)).append(town.nameOf(i)).append(' ').append(town.load(i));
            text.append(town.hadWater(i) ? 'y' : 'n');
            put(text, () -> town.rentOf(plot));
        }
    }

    private static void ways(Hundredward town, StringBuilder text, int first) {
        for (int i = first; i < first + ROW; i++) {
            for (int j = 0; j < ROWS * ROW; j++) {
                int from = i;
                int to = j;
                put(text, () -> town.way(from, to));
            }
        }
    }

    private static void people(Hundredward town, StringBuilder text) {
        for (int i = 0; i < 12; i++) {
            int who = i;
            put(text, () -> town.homeOf(who) * 100 + town.firmOf(who));
            put(text, () -> town.hungerOf(who) * 100 + town.costOf(who));
        }
        for (int i = 0; i < 6; i++) {
            int firm = i;
            put(text, () -> town.stockOf(firm) * 1000 + town.creditOf(firm));
            put(text, () -> town.workersOf(firm));
        }
    }

    private static void accounts(Hundredward town, StringBuilder text) {
        for (int i = 0; i < 112; i++) {
            int account = i;
            put(text, () -> town.balance(account));
            put(text, () -> town.balanceAnew(account));
        }
        for (char what : "isrt".toCharArray()) {
            put(text, () -> town.law(what));
        }
        put(text, town::bonds);
        put(text, town::failures);
        put(text, town::households);
        put(text, town::money);
        put(text, town::workingShare);
        put(text, town::meanRent);
        put(text, town::isBalanced);
    }

    private static void put(StringBuilder text, Checks.Call call) {
        Object got;
        try {
            got = call.answer();
        } catch (RuntimeException e) {
            got = e.getClass().getSimpleName();
        }
        text.append(' ').append(got);
    }
}

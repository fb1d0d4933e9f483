/** All that a town answers, as one text, to compare what it was with what it is. */
final class State {
    private State() {
    }

    static String of(Hundredward town) {
        StringBuilder text = new StringBuilder();
        for (int i = 0; i < 25; i++) {
            text.append(town.builtOn(i)).append(town.nameOf(i)).append(' ').append(town.load(i));
            text.append(town.hadWater(i) ? 'y' : 'n');
            int plot = i;
            put(text, () -> town.rentOf(plot));
            for (int other = 0; other < 25; other++) {
                int to = other;
                put(text, () -> town.way(plot, to));
            }
        }
        for (int i = 0; i < 12; i++) {
            int who = i;
            put(text, () -> town.homeOf(who) * 100 + town.firmOf(who));
            put(text, () -> town.hungerOf(who) * 100 + town.costOf(who));
        }
        for (int i = 0; i < 6; i++) {
            int firm = i;
            put(text, () -> town.stockOf(firm) * 1000 + town.creditOf(firm));
            put(text, () -> town.workersOf(firm));
        }
        accounts(town, text);
        return text.toString();
    }

    /** Where two of those texts begin to differ. */
    static String change(String before, String after) {
        int end = Math.min(before.length(), after.length());
        for (int i = 0; i < end; i++) {
            if (before.charAt(i) != after.charAt(i)) {
                return before.substring(i, Math.min(end, i + 30)) + " became " + after.substring(i, Math.min(end, i + 30));
            }
        }
        return before.length() == after.length() ? "none" : "another length";
    }

    private static void accounts(Hundredward town, StringBuilder text) {
        for (int i = 0; i < 112; i++) {
            int account = i;
            put(text, () -> town.balance(account));
        }
        text.append(Towns.since(town, 0));
        for (char what : "isrt".toCharArray()) {
            put(text, () -> town.law(what));
        }
        put(text, town::bonds);
        put(text, town::failures);
        put(text, town::households);
        put(text, town::money);
        put(text, town::workingShare);
        put(text, town::meanRent);
        put(text, town::isBalanced);
    }

    private static void put(StringBuilder text, Checks.Call call) {
        Object got;
        try {
            got = call.answer();
        } catch (RuntimeException e) {
            got = e.getClass().getSimpleName();
        }
        text.append(' ').append(got);
    }
}

/** Promises 17, 18 and 23 to 25: firms. */
public final class FirmsTest {
    public static void main(String[] args) {
        founding();
        foundingErrors();
        foundingMoney();
        foundingTooMany();
        paying();
        questions();
        failing();
        Checks.finish();
    }

    private static void founding() {
        Hundredward town = Checks.laid("sf");
        Checks.due("found a factory", town.found(1, 1, 99), 0);
        Checks.due("found a shop", town.found(0, 99, 1), 1);
        Checks.due("credit", town.creditOf(0), 100);
        Checks.due("stock", town.stockOf(0), 0);
        Checks.due("workers", town.workersOf(0), 0);
        Checks.due("money of the first", town.balance(10), 100);
        Checks.due("money of the second", town.balance(11), 100);
        Checks.due("money of the bank", town.balance(1), 1800);
        int last = town.entries() - 1;
        Checks.due("from the bank", town.entry(last, 0), 1);
        Checks.due("to the second", town.entry(last, 1), 11);
        Checks.due("so much", town.entry(last, 2), 100);
    }

    private static void foundingErrors() {
        Hundredward town = Checks.laid("srhwf");
        Checks.outOfBounds("found at -1", () -> town.found(-1, 0, 0));
        Checks.outOfBounds("found at 25", () -> town.found(25, 1, 1));
        Checks.badArgument("wage 0 before state", () -> town.found(1, 0, 1));
        Checks.badArgument("wage 100", () -> town.found(0, 100, 1));
        Checks.badArgument("wage -1", () -> town.found(0, -1, 1));
        Checks.badArgument("price 0", () -> town.found(0, 1, 0));
        Checks.badArgument("price 100", () -> town.found(0, 1, 100));
        for (int plot = 1; plot < 4; plot++) {
            int on = plot;
            Checks.badState("found on a " + town.builtOn(on), () -> town.found(on, 1, 1));
        }
        Checks.badState("found on nothing", () -> town.found(5, 1, 1));
        Checks.due("found", town.found(0, 1, 1), 0);
        Checks.badState("found on a firm", () -> town.found(0, 1, 1));
        Checks.due("nothing paid for those", town.balance(1), 1900);
    }

    private static void foundingMoney() {
        Hundredward town = Checks.laid("sf");
        town.borrow(999);
        town.borrow(802);
        Checks.badState("the bank has 199 less 100", () -> {
            town.found(0, 1, 1);
            return town.found(1, 1, 1);
        });
        Checks.due("the bank has 99", town.balance(1), 99);
        Hundredward enough = Checks.laid("sf");
        enough.borrow(999);
        enough.borrow(901);
        Checks.due("the bank has 100", enough.found(0, 1, 1), 0);
        Checks.due("the bank has nothing", enough.balance(1), 0);
    }

    private static void foundingTooMany() {
        Hundredward town = Checks.laid("sffff", "sf");
        int firms = 0;
        for (int plot = 0; plot < 6; plot++) {
            Checks.due("found " + plot, town.found(plot, 1, 1), firms);
            firms++;
        }
        Checks.badState("6 were founded", () -> town.found(6, 1, 1));
        Checks.outOfBounds("no seventh firm", () -> town.stockOf(6));
    }

    private static void paying() {
        Hundredward town = Checks.laid("hf");
        town.arrive(0, 100);
        town.found(1, 10, 20);
        Checks.due("setPay", town.setPay(0, 99, 99), 10);
        Checks.due("setPay again", town.setPay(0, 1, 1), 99);
        Checks.badArgument("wage 0", () -> town.setPay(0, 0, 1));
        Checks.badArgument("wage 100", () -> town.setPay(0, 100, 1));
        Checks.badArgument("price 0", () -> town.setPay(0, 1, 0));
        Checks.badArgument("price 100", () -> town.setPay(0, 1, 100));
        Checks.outOfBounds("setPay 1", () -> town.setPay(1, 0, 0));
        Checks.outOfBounds("setPay -1", () -> town.setPay(-1, 1, 1));
        Checks.due("the wage is as it was", town.setPay(0, 30, 1), 1);
        town.pass(1);
        Checks.due("the new wage is paid: 30 less 3, less a rent of 1", town.balance(100), 126);
    }

    private static void questions() {
        Hundredward town = Checks.laid("hf");
        town.found(1, 10, 20);
        for (int firm : new int[] {-1, 1, 6, Integer.MAX_VALUE, Integer.MIN_VALUE}) {
            Checks.outOfBounds("stockOf " + firm, () -> town.stockOf(firm));
            Checks.outOfBounds("creditOf " + firm, () -> town.creditOf(firm));
            Checks.outOfBounds("workersOf " + firm, () -> town.workersOf(firm));
        }
        town.arrive(3, 100);
        town.pass(1);
        Checks.due("four times eight by four, halved", town.stockOf(0), 4);
        Checks.due("one worker", town.workersOf(0), 1);
        Checks.due("the credit stays", town.creditOf(0), 100);
    }

    private static void failing() {
        Hundredward town = Checks.laid("hf");
        town.arrive(3, 100);
        town.found(1, 97, 20);
        town.pass(1);
        Checks.noElement("stockOf a firm that failed", () -> town.stockOf(0));
        Checks.noElement("creditOf a firm that failed", () -> town.creditOf(0));
        Checks.noElement("workersOf a firm that failed", () -> town.workersOf(0));
        Checks.noElement("setPay of a firm that failed, before the range", () -> town.setPay(0, 0, 0));
        Checks.due("its worker has no firm", town.firmOf(0), -1);
        Checks.due("its worker worked", town.costOf(0), 0);
        Checks.due("its money is gone", town.balance(10), 0);
        Checks.due("it went to the bank", town.balance(1), 1903);
        Checks.due("the building stays", town.builtOn(1), 'f');
        Checks.due("its stock is lost", town.isBalanced(), true);
        Checks.due("another firm is founded there", town.found(1, 10, 20), 1);
        town.pass(1);
        Checks.due("and has the worker", town.firmOf(0), 1);
        Checks.noElement("the failed one stays failed", () -> town.workersOf(0));
        Hundredward empty = Checks.laid("s");
        empty.found(0, 1, 1);
        Checks.badState("no takeDown with a firm", () -> empty.takeDown(0));
        for (int i = 0; i < 2; i++) {
            empty.pass(10);
        }
        Checks.due("5 a day for 20 days", empty.balance(10), 0);
        Checks.due("it is still there", empty.creditOf(0), 100);
        empty.pass(1);
        Checks.noElement("it cannot pay", () -> empty.creditOf(0));
        Checks.due("takeDown without the firm", empty.takeDown(0), 's');
    }
}

/** Promises 26 to 38 but for what happens on a day: bonds, days as such, accounts, the journal, and sums. */
public final class MoneyTest {
    public static void main(String[] args) {
        borrowing();
        passing();
        accounts();
        entries();
        townFails();
        townFailsRents();
        shares();
        rents();
        Checks.finish();
    }

    private static void borrowing() {
        Hundredward town = new Hundredward();
        Checks.due("borrow 1", town.borrow(1), 1);
        Checks.due("borrow 999", town.borrow(999), 1000);
        Checks.due("bonds", town.bonds(), 1000);
        Checks.due("the treasury", town.balance(0), 1500);
        Checks.due("the bank", town.balance(1), 1000);
        Checks.due("from the bank", town.entry(3, 0), 1);
        Checks.due("to the treasury", town.entry(3, 1), 0);
        Checks.due("so much", town.entry(3, 2), 999);
        Checks.badArgument("borrow 0", () -> town.borrow(0));
        Checks.badArgument("borrow -1", () -> town.borrow(-1));
        town.borrow(999);
        Checks.badArgument("borrow 1000, the bank has 1", () -> town.borrow(1000));
        Checks.badState("borrow 2, the bank has 1", () -> town.borrow(2));
        Checks.due("borrow 1, the bank has 1", town.borrow(1), 2000);
        Checks.badState("borrow 1, the bank has nothing", () -> town.borrow(1));
        Checks.due("no money is made", town.money(), 2500L);
    }

    private static void passing() {
        Hundredward town = new Hundredward();
        Checks.due("pass 1", town.pass(1), 1);
        Checks.due("pass 10", town.pass(10), 11);
        Checks.badArgument("pass 0", () -> town.pass(0));
        Checks.badArgument("pass 11", () -> town.pass(11));
        Checks.badArgument("pass -1", () -> town.pass(-1));
        Checks.badArgument("pass far", () -> town.pass(Integer.MAX_VALUE));
        Checks.due("pass 2", town.pass(2), 13);
        Checks.due("an empty town has no entries of its days", town.entries(), 2);
    }

    private static void accounts() {
        Hundredward town = Checks.laid("sf");
        for (int account : new int[] {-1, 3, 9, 10, 99, 100, 111, 112, Integer.MAX_VALUE, Integer.MIN_VALUE}) {
            Checks.outOfBounds("balance " + account, () -> town.balance(account));
            Checks.outOfBounds("balanceAnew " + account, () -> town.balanceAnew(account));
        }
        town.found(0, 1, 1);
        town.arrive(0, 7);
        Checks.due("balance 10", town.balance(10), 100);
        Checks.due("balanceAnew 10", town.balanceAnew(10), 100);
        Checks.due("balance 100", town.balance(100), 7);
        Checks.due("balanceAnew 100", town.balanceAnew(100), 7);
        Checks.due("balanceAnew 0", town.balanceAnew(0), 420);
        Checks.due("balanceAnew 1", town.balanceAnew(1), 1900);
        Checks.due("balanceAnew 2", town.balanceAnew(2), 80);
        Checks.outOfBounds("balance 11", () -> town.balance(11));
        Checks.outOfBounds("balance 101", () -> town.balance(101));
        town.leave(0);
        Checks.due("balance of one that left", town.balance(100), 0);
        Checks.due("balanceAnew of one that left", town.balanceAnew(100), 0);
        Checks.due("money", town.money(), 2500L);
    }

    private static void entries() {
        Hundredward town = new Hundredward();
        int[][] due = {{-1, 1, 2000}, {-1, 0, 500}};
        for (int i = 0; i < due.length; i++) {
            for (int what = 0; what < 3; what++) {
                Checks.due("entry " + i + " " + what, town.entry(i, what), due[i][what]);
            }
        }
        Checks.outOfBounds("entry 2", () -> town.entry(2, 0));
        Checks.outOfBounds("entry -1", () -> town.entry(-1, 0));
        Checks.outOfBounds("entry far", () -> town.entry(Integer.MAX_VALUE, 0));
        Checks.outOfBounds("entry 0 3", () -> town.entry(0, 3));
        Checks.outOfBounds("entry 0 -1", () -> town.entry(0, -1));
        Checks.outOfBounds("entry 255", () -> town.entry(255, 0));
        for (int i = 0; i < 479; i++) {
            town.borrow(i % 3 + 1);
        }
        Checks.due("entries", town.entries(), 481);
        Checks.due("a late entry", town.entry(480, 2), 2);
        Checks.due("an early entry", town.entry(2, 2), 1);
        Checks.due("isBalanced", town.isBalanced(), true);
    }

    /** 500 of bonds cost 25 a day; a treasury of 20 cannot pay. */
    private static void townFails() {
        Hundredward town = Checks.laid("wwhrr", "rrrrr");
        town.borrow(461);
        for (int i = 10; i < 24; i++) {
            town.build(i, 'r');
        }
        Checks.due("the treasury", town.balance(0), 1);
        Checks.due("bonds", town.bonds(), 461);
        town.setTolerance(3);
        town.pass(1);
        Checks.due("failures", town.failures(), 1);
        Checks.due("its bonds are gone", town.bonds(), 0);
        Checks.due("nothing is paid", town.balance(0), 1);
        Checks.due("waterworks at 0", town.builtOn(0), '.');
        Checks.due("waterworks at 1", town.builtOn(1), '.');
        Checks.due("the home stays", town.builtOn(2), 'h');
        Checks.due("law i", town.law('i'), 20);
        Checks.due("law s", town.law('s'), 20);
        Checks.due("law r", town.law('r'), 50);
        Checks.due("law t stays", town.law('t'), 3);
        Checks.due("the water of the day", town.hadWater(2), true);
        town.pass(1);
        Checks.due("no bonds, no failure", town.failures(), 1);
        Checks.due("no water any more", town.hadWater(2), false);
        Hundredward just = Checks.laid("rrrrr", "rrrrr", "rr");
        just.borrow(400);
        just.pass(1);
        Checks.due("a treasury of 420 pays 20", just.balance(0), 400);
        just.borrow(1);
        just.pass(1);
        Checks.due("401 of bonds cost 21", just.balance(0), 380);
        Checks.due("no failure", just.failures(), 0);
    }

    /** A rent of 60 and the 38 that are left are less than the 100 that 1998 of bonds cost a day. */
    private static void townFailsRents() {
        Hundredward town = Checks.laid("h");
        town.arrive(0, 999);
        town.arrive(0, 999);
        town.vote('r', 60);
        town.pass(1);
        Checks.due("the greatest rent", town.rentOf(0), 60);
        town.borrow(999);
        town.borrow(999);
        spendAll(town);
        Checks.due("the treasury", town.balance(0), 38);
        town.pass(1);
        Checks.due("the town failed", town.failures(), 1);
        Checks.due("law r", town.law('r'), 50);
        Checks.due("the rent is cut", town.rentOf(0), 50);
        Checks.due("the day's rent was paid before", town.balance(0), 98);
        town.pass(1);
        Checks.due("the rent that is cut is paid", town.balance(0), 148);
        Hundredward low = Checks.laid("h");
        low.arrive(0, 999);
        low.arrive(0, 999);
        low.pass(1);
        low.leave(1);
        low.vote('r', 20);
        low.borrow(999);
        low.borrow(999);
        spendAll(low);
        low.pass(1);
        Checks.due("law r is more then", low.law('r'), 50);
        Checks.due("the rent is as it was", low.rentOf(0), 20);
    }

    private static void spendAll(Hundredward town) {
        for (int i = 0; i < 100 && town.balance(0) >= 40; i++) {
            town.build(24, 'r');
            town.takeDown(24);
        }
    }

    private static void shares() {
        Hundredward town = Checks.laid("hfh", "h");
        Checks.throwing("no households", ArithmeticException.class, town::workingShare);
        town.arrive(0, 100);
        town.arrive(0, 90);
        town.arrive(0, 80);
        Checks.due("nobody works", town.workingShare(), 0f);
        town.found(1, 1, 1);
        town.pass(1);
        Checks.due("two of three work", town.workingShare(), 2f / 3f);
        town.leave(2);
        Checks.due("both work", town.workingShare(), 1f);
        town.leave(0);
        town.leave(1);
        Checks.throwing("no households any more", ArithmeticException.class, town::workingShare);
    }

    private static void rents() {
        Hundredward town = Checks.laid("hhh");
        town.arrive(0, 300);
        town.arrive(0, 200);
        Checks.throwing("nobody has a home", ArithmeticException.class, town::meanRent);
        town.arrive(0, 205);
        town.pass(1);
        Checks.due("the mean of 25, 25 and 1", town.meanRent(), 17.0);
        town.leave(1);
        Checks.due("the mean of 25 and 1", town.meanRent(), 13.0);
        town.leave(0);
        town.leave(2);
        Checks.throwing("nobody has a home any more", ArithmeticException.class, town::meanRent);
        Hundredward thirds = Checks.laid("hhh");
        thirds.arrive(0, 300);
        thirds.arrive(0, 300);
        thirds.arrive(0, 200);
        thirds.pass(1);
        Checks.due("the mean of 35, 25 and 1", thirds.meanRent(), 61.0 / 3.0);
    }
}

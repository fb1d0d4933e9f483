/** The promises 26 to 38, each row of them by itself: its range, what is returned, and what throws. */
public final class MoneyRowsTest {
    private static final Class<IllegalArgumentException> BAD = IllegalArgumentException.class;
    private static final Class<IndexOutOfBoundsException> OUT = IndexOutOfBoundsException.class;

    public static void main(String[] args) {
        borrow();
        pass();
        balance();
        balanceAnew();
        entries();
        entry();
        bonds();
        failures();
        households();
        money();
        workingShare();
        meanRent();
        isBalanced();
        Checks.finish();
    }

    /** One firm, and two households with 7 and with nothing. */
    private static Hundredward small() {
        Hundredward town = Towns.peopled(Checks.laid("s"), 7, 0);
        town.found(0, 1, 1);
        return town;
    }

    private static void borrow() {
        Checks.promise(26, "`amount`: the amount, 1 to 999");
        Ranges.within(1, 999, BAD, Hundredward::new, (town, amount) -> town.borrow(amount));
        Checks.promise(26, "Returns the bonds then.");
        Hundredward town = new Hundredward();
        Checks.due("the first", town.borrow(1), 1);
        Checks.due("and more", town.borrow(998), 999);
        Checks.due("and more", town.borrow(999), 1998);
        Checks.promise(26, "Throws `IllegalArgumentException` if it is out of range");
        Checks.badArgument("0", () -> town.borrow(0));
        Checks.badArgument("1000, which the bank has not either", () -> town.borrow(1000));
        Checks.promise(26, "Throws `IllegalStateException` if the bank has not so much");
        Checks.badState("3 of 2", () -> town.borrow(3));
        Checks.due("2 of 2", town.borrow(2), 2000);
        Checks.badState("1 of 0", () -> town.borrow(1));
        Checks.due("1 of 2", Towns.bank(new Hundredward(), 2).borrow(1), 1999);
    }

    private static void pass() {
        Checks.promise(27, "`days`: the number of days, 1 to 10");
        Ranges.within(1, 10, BAD, Hundredward::new, (town, days) -> town.pass(days));
        for (int days = 1; days <= 10; days++) {
            Hundredward once = small();
            Hundredward each = small();
            once.borrow(100);
            each.borrow(100);
            once.pass(days);
            for (int day = 1; day <= days; day++) {
                Checks.due("one day after another", each.pass(1), day);
            }
            Checks.due("so many days at once", Towns.since(once, 0), Towns.since(each, 0));
        }
        Checks.promise(27, "Returns the day.");
        Hundredward town = new Hundredward();
        Checks.due("10", town.pass(10), 10);
        Checks.due("11", town.pass(1), 11);
        Checks.due("20", town.pass(9), 20);
        Checks.promise(27, "Throws `IllegalArgumentException` if it is out of range");
        Checks.badArgument("0", () -> town.pass(0));
        Checks.badArgument("11", () -> town.pass(11));
        Checks.due("no day went by", town.pass(1), 21);
    }

    private static void accounts(Ranges.OfNumber call) {
        Hundredward town = small();
        int[] due = {460, 1900, 40, 100, 7, 0};
        int[] accounts = {0, 1, 2, 10, 100, 101};
        for (int i = 0; i < due.length; i++) {
            Checks.due("account " + accounts[i], call.answer(town, accounts[i]), due[i]);
        }
    }

    private static void noAccounts(Ranges.OfNumber call) {
        Ranges.beyond(0, 2, OUT, MoneyRowsTest::small, call);
        Ranges.beyond(10, 10, OUT, MoneyRowsTest::small, call);
        Ranges.beyond(100, 101, OUT, MoneyRowsTest::small, call);
        Checks.throwing("a firm that is not founded yet", OUT, () -> call.answer(new Hundredward(), 10));
        Checks.throwing("a household that did not come yet", OUT, () -> call.answer(new Hundredward(), 100));
    }

    private static void balance() {
        Checks.promise(28, "`account`: the account");
        accounts(Hundredward::balance);
        Checks.promise(28, "Returns the money.");
        Hundredward town = small();
        town.borrow(5);
        Checks.due("the treasury", town.balance(0), 465);
        Checks.due("the bank", town.balance(1), 1895);
        town.leave(0);
        Checks.due("one that left", town.balance(100), 0);
        Checks.promise(28, "Throws `IndexOutOfBoundsException` if there never was such an account");
        noAccounts(Hundredward::balance);
    }

    private static void balanceAnew() {
        Checks.promise(29, "`account`: the account");
        accounts(Hundredward::balanceAnew);
        Checks.promise(29, "Returns the money.");
        Hundredward town = small();
        town.borrow(5);
        Checks.due("the treasury", town.balanceAnew(0), 465);
        Checks.due("the bank", town.balanceAnew(1), 1895);
        town.leave(0);
        Checks.due("one that left", town.balanceAnew(100), 0);
        Checks.due("again", town.balanceAnew(0), 465);
        Checks.promise(29, "Throws `IndexOutOfBoundsException` if there never was such an account");
        noAccounts(Hundredward::balanceAnew);
    }

    private static void entries() {
        Checks.promise(30, "Returns the number of entries.");
        Hundredward town = new Hundredward();
        Checks.due("two at first", town.entries(), 2);
        town.build(0, 's');
        Checks.due("a building", town.entries(), 3);
        town.takeDown(0);
        Checks.due("nothing for taking it down", town.entries(), 3);
        town.arrive(0, 0);
        Checks.due("nothing for one with nothing", town.entries(), 3);
        town.arrive(0, 1);
        Checks.due("one for one with 1", town.entries(), 4);
        town.borrow(1);
        town.pass(1);
        Checks.due("a bond, and its interest", town.entries(), 6);
    }

    private static void entry() {
        Checks.promise(31, "`index`: the index, from 0");
        for (int what = 0; what <= 2; what++) {
            int part = what;
            Ranges.within(0, 1, OUT, Hundredward::new, (town, index) -> town.entry(index, part));
        }
        Checks.promise(31, "`what`: 0 from where, 1 to where, 2 the amount");
        Ranges.within(0, 2, OUT, Hundredward::new, (town, what) -> town.entry(1, what));
        Checks.promise(31, "Returns the number.");
        Hundredward town = small();
        int[][] due = {{-1, 1, 2000}, {-1, 0, 500}, {0, 2, 40}, {-1, 100, 7}, {1, 10, 100}};
        for (int index = 0; index < due.length; index++) {
            for (int what = 0; what <= 2; what++) {
                Checks.due("entry " + index + " " + what, town.entry(index, what), due[index][what]);
            }
        }
        for (int first = 0; first < 400; first += 25) {
            Hundredward many = many();
            for (int i = first; i < first + 25; i++) {
                Checks.due("bond " + i, many.entry(15 + i, 2), 1 + i % 4);
                Checks.due("from the bank", many.entry(15 + i, 0), 1);
                Checks.due("to the treasury", many.entry(15 + i, 1), 0);
            }
            Checks.due("the first one is as it was", many.entry(0, 2), 2000);
        }
        Checks.promise(31, "Throws `IndexOutOfBoundsException` if there is no such entry or number");
        Ranges.beyond(0, 414, OUT, MoneyRowsTest::many, (of, index) -> of.entry(index, 0));
        Ranges.beyond(0, 2, OUT, MoneyRowsTest::many, (of, what) -> of.entry(414, what));
        Checks.outOfBounds("neither", () -> town.entry(5, 3));
    }

    /** The two first entries, one of 999, twelve of 40, and then 400 small bonds. */
    private static Hundredward many() {
        Hundredward town = new Hundredward();
        town.arrive(0, 999);
        for (int i = 0; i < 12; i++) {
            town.build(i, 'r');
        }
        for (int i = 0; i < 400; i++) {
            town.borrow(1 + i % 4);
        }
        return town;
    }

    private static void bonds() {
        Checks.promise(32, "Returns the bonds.");
        Hundredward town = new Hundredward();
        Checks.due("none at first", town.bonds(), 0);
        town.borrow(1);
        Checks.due("1", town.bonds(), 1);
        town.borrow(999);
        Checks.due("1000", town.bonds(), 1000);
        town.pass(1);
        Checks.due("interest does not lessen them", town.bonds(), 1000);
        Towns.treasury(town, 0);
        town.pass(1);
        Checks.due("the town's failing does", town.bonds(), 0);
    }

    private static void failures() {
        Checks.promise(33, "Returns how often.");
        Hundredward town = new Hundredward();
        town.pass(3);
        Checks.due("never", town.failures(), 0);
        for (int time = 1; time <= 3; time++) {
            town.borrow(40);
            town.pass(1);
            Checks.due("it pays its interest", town.failures(), time - 1);
            Towns.treasury(town, 0);
            town.pass(1);
            Checks.due("it cannot pay it", town.failures(), time);
            town.pass(1);
            Checks.due("it has no bonds any more", town.failures(), time);
        }
    }

    private static void households() {
        Checks.promise(34, "Returns how many are there.");
        Hundredward town = new Hundredward();
        Checks.due("none", town.households(), 0);
        for (int i = 1; i <= 12; i++) {
            town.arrive(0, 0);
            Checks.due("so many", town.households(), i);
        }
        for (int i = 0; i < 12; i++) {
            town.leave(i);
            Checks.due("one less", town.households(), 11 - i);
        }
    }

    private static void money() {
        Checks.promise(35, "Returns the sum of all accounts.");
        Hundredward town = new Hundredward();
        Checks.due("at first", town.money(), 2500L);
        for (int i = 0; i < 12; i++) {
            town.arrive(0, 999);
        }
        Checks.due("the most that can be", town.money(), 2500L + 12 * 999);
        town.build(0, 's');
        town.found(0, 1, 1);
        town.borrow(100);
        Checks.due("payments make none", town.money(), 2500L + 12 * 999);
        town.leave(11);
        Checks.due("999 left", town.money(), 2500L + 11 * 999);
        town.pass(4);
        Checks.due("all starved", town.money(), 2500L);
    }

    private static void workingShare() {
        Checks.promise(36, "Returns their number divided by that of all that are there, both converted to float.");
        for (int households = 1; households <= 12; households++) {
            for (int working = 0; working <= Math.min(3, households); working++) {
                Hundredward town = Checks.laid(".h", "hfh");
                town.found(6, 1, 1);
                Towns.peopled(town, 100, 100, 100).pass(1);
                for (int i = working; i < 3; i++) {
                    town.leave(i);
                }
                // Three came already, so that nine more can come.
                for (int i = 0; i < Math.min(9, households - working); i++) {
                    town.arrive(0, 1);
                }
                int all = town.households();
                Checks.due(working + " of " + all, town.workingShare(), (float) working / (float) all);
            }
        }
        Checks.due("one of three is that of float", (double) third(), (double) (1f / 3f));
        Checks.promise(36, "Throws `ArithmeticException` if there are none");
        Hundredward town = new Hundredward();
        Checks.throwing("nobody came", ArithmeticException.class, town::workingShare);
        town.arrive(0, 1);
        Checks.due("one", town.workingShare(), 0f);
        town.leave(0);
        Checks.throwing("nobody is there", ArithmeticException.class, town::workingShare);
    }

    private static float third() {
        Hundredward town = Towns.peopled(Checks.laid("hs"), 100, 90, 80);
        town.found(1, 1, 1);
        town.pass(1);
        return town.workingShare();
    }

    private static void meanRent() {
        Checks.promise(37, "Returns the sum divided by their number, both converted to double.");
        Hundredward town = Towns.peopled(Checks.laid("hhh"), 300, 300, 200);
        town.pass(1);
        Checks.due("35, 25 and 1", town.meanRent(), 61.0 / 3.0);
        Hundredward all = Towns.peopled(Checks.laid("hhhhh", "hhhhh", "hh"), 0);
        all.leave(0);
        for (int i = 1; i < 12; i++) {
            all.arrive(0, 999);
        }
        all.pass(1);
        Checks.due("ten at 50 and one at 1", all.meanRent(), 501.0 / 11.0);
        all.vote('r', 7);
        Checks.due("ten at 7 and one at 1", all.meanRent(), 71.0 / 11.0);
        Hundredward one = Towns.peopled(Checks.laid("h"), 100);
        one.pass(1);
        Checks.due("one at 1", one.meanRent(), 1.0);
        Checks.promise(37, "Throws `ArithmeticException` if there are none");
        one.leave(0);
        Checks.throwing("nobody has the home", ArithmeticException.class, one::meanRent);
        Checks.throwing("no homes", ArithmeticException.class, () -> new Hundredward().meanRent());
        Checks.throwing("before the day", ArithmeticException.class, () -> Towns.peopled(Checks.laid("h"), 9).meanRent());
    }

    private static void isBalanced() {
        Checks.promise(38, "Returns whether all of it holds.");
        Checks.due("at first", new Hundredward().isBalanced(), true);
        Hundredward town = Checks.laid(".rrr.", "hrfr.", ".hrh.");
        Towns.skilled(town, 3, 3, 3);
        town.found(7, 1, 1);
        Checks.due("before a day", town.isBalanced(), true);
        town.pass(1);
        Checks.due("after a day", town.isBalanced(), true);
        town.takeDown(6);
        town.setHeight(8, 0);
        town.setRiver(1);
        Checks.due("with other ways than on that day", town.isBalanced(), true);
        town.build(6, 'r');
        town.setRiver(0);
        town.build(14, 'r');
        Checks.due("with better ways than on that day", town.isBalanced(), true);
        town.leave(0);
        Checks.due("with one less", town.isBalanced(), true);
        for (int day = 0; day < 25; day++) {
            town.pass(1);
            Checks.due("day after day", town.isBalanced(), true);
        }
        Checks.noElement("though the firm failed with its stock", () -> town.stockOf(0));
    }
}

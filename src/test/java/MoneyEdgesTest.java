/** What Terms say of accounts and the journal, each sentence at its boundary and on both sides of it. */
public final class MoneyEdgesTest {
    public static void main(String[] args) {
        balances();
        accounts();
        firstMoney();
        noOtherMoney();
        entriesOfOne();
        entriesOfTheDay();
        entriesOfEnds();
        outside();
        exactAmounts();
        neverLess();
        Checks.finish();
    }

    /** A town that has all kinds of payments, and firms and households that go. */
    private static Hundredward busy() {
        Hundredward town = Checks.laid(".h...", "hfsh.", ".h...", "r...w");
        Towns.skilled(town, 3, 2, 1, 0, 3, 0);
        town.found(6, 40, 7);
        town.found(7, 20, 19);
        town.borrow(300);
        return town;
    }

    private static Hundredward busyFor(int days) {
        Hundredward town = busy();
        for (int day = 0; day < days; day++) {
            town.pass(1);
        }
        return town;
    }

    private static int summed(int[][] journal, int account) {
        int sum = 0;
        for (int[] entry : journal) {
            sum += entry[1] == account ? entry[2] : 0;
            sum -= entry[0] == account ? entry[2] : 0;
        }
        return sum;
    }

    private static final int[] BUSY_ACCOUNTS = {0, 1, 2, 10, 11, 100, 101, 102, 103, 104, 105};

    private static void balances() {
        Checks.terms("Every book balances, and is the sum of its journal.");
        for (int day = 0; day < 12; day++) {
            int days = day;
            int[][] journal = Towns.journal(() -> busyFor(days));
            Hundredward town = busyFor(days);
            long all = 0;
            for (int account : BUSY_ACCOUNTS) {
                Checks.due("balance " + account, town.balance(account), summed(journal, account));
                Checks.due("balanceAnew " + account, town.balanceAnew(account), summed(journal, account));
                all += town.balance(account);
            }
            Checks.due("money", town.money(), all);
            Checks.due("what is made less what left", town.money(), -(long) summed(journal, -1));
            Checks.due("isBalanced", town.isBalanced(), true);
        }
    }

    private static void accounts() {
        Checks.terms("Accounts: 0 the treasury, 1 the bank, 2 the builders, 10 and more the firms, 100 and more the",
                "households, each with its number added.");
        only(withAccounts(0, 0), 0, 0);
        only(withAccounts(1, 1), 1, 1);
        only(withAccounts(6, 12), 6, 12);
        Hundredward town = withAccounts(6, 12);
        Checks.due("the treasury", town.balance(0), 500 - 6 * 40);
        Checks.due("the bank", town.balance(1), 2000 - 6 * 100);
        Checks.due("the builders", town.balance(2), 6 * 40);
        Checks.due("the first firm", town.balance(10), 100);
        Checks.due("the last firm", town.balance(15), 100);
        Checks.due("the first household", town.balance(100), 7);
        Checks.due("the last household", town.balance(111), 18);
        town.leave(11);
        only(town, 6, 12);
        Checks.due("one that left has its account", town.balance(111), 0);
    }

    private static Hundredward withAccounts(int firms, int households) {
        Hundredward town = Checks.laid("ffffs", "s....");
        for (int plot = 0; plot < firms; plot++) {
            town.found(plot, 1, 1);
        }
        for (int i = 0; i < households; i++) {
            town.arrive(0, 7 + i);
        }
        return town;
    }

    /** Asks for all numbers round the accounts; those that there never were throw. */
    private static void only(Hundredward town, int firms, int households) {
        for (int i = -2; i <= 130; i++) {
            int account = i;
            if (i >= 0 && i <= 2 || i >= 10 && i < 10 + firms || i >= 100 && i < 100 + households) {
                Checks.due("both answer " + i, town.balanceAnew(i), town.balance(i));
            } else {
                Checks.outOfBounds("balance " + i, () -> town.balance(account));
                Checks.outOfBounds("balanceAnew " + i, () -> town.balanceAnew(account));
            }
        }
        for (int far : new int[] {Integer.MIN_VALUE, Integer.MIN_VALUE + 100, Integer.MAX_VALUE, 1 << 16, 1 << 31}) {
            Checks.outOfBounds("balance " + far, () -> town.balance(far));
            Checks.outOfBounds("balanceAnew " + far, () -> town.balanceAnew(far));
        }
    }

    private static void firstMoney() {
        Checks.terms("Money is made when it is told here, and only then: the bank has 2000 at first, and then the",
                "treasury 500.");
        Hundredward town = new Hundredward();
        Checks.due("the journal", Towns.since(town, 0), "-1>1:2000 -1>0:500");
        Checks.due("the bank", town.balance(1), 2000);
        Checks.due("the treasury", town.balance(0), 500);
        Checks.due("the builders", town.balance(2), 0);
        Checks.due("money", town.money(), 2500L);
    }

    private static void noOtherMoney() {
        Hundredward town = busy();
        long made = 2500 + 6 * 100;
        Checks.due("made by those who came", town.money(), made);
        for (int day = 0; day < 3; day++) {
            town.pass(1);
            Checks.due("a day makes none", town.money(), made);
        }
        made -= town.leave(5);
        Checks.due("what is taken along is gone", town.money(), made);
        town.borrow(100);
        Checks.due("bonds make none", town.money(), made);
        town.arrive(0, 1);
        Checks.due("one that comes brings its own", town.money(), made + 1);
    }

    private static void entriesOfOne() {
        Checks.terms("Each payment of more than 0 is an entry of the journal: from an account, to an account, an amount;");
        Hundredward town = new Hundredward();
        int before = town.entries();
        town.arrive(0, 0);
        Checks.due("to come with nothing is none", Towns.since(town, before), "");
        town.leave(0);
        Checks.due("to leave with nothing is none", Towns.since(town, before), "");
        town.arrive(0, 1);
        Checks.due("to come with 1 is one", Towns.since(town, before), "-1>101:1");
        town.leave(1);
        Checks.due("to leave with 1 is one", Towns.since(town, before), "-1>101:1 101>-1:1");
        town.borrow(1);
        Checks.due("a bond of 1 is one", Towns.since(town, before), "-1>101:1 101>-1:1 1>0:1");
    }

    private static void entriesOfTheDay() {
        for (int wage : new int[] {9, 10}) {
            Hundredward town = Towns.peopled(Checks.laid("hf"), 100);
            town.found(1, wage, 1);
            String tax = wage == 9 ? "" : " 100>0:1";
            Checks.due("income tax of " + wage, Towns.day(town), "10>100:" + wage + tax + " 100>0:1 10>1:5");
        }
        for (int price : new int[] {19, 20}) {
            Hundredward town = Checks.laid("hsfh");
            Towns.skilled(town, 0, 3);
            town.found(1, 1, price);
            town.found(2, 1, 90);
            String tax = price == 19 ? "" : " 10>0:1";
            Checks.due("sales tax of " + price, Towns.day(town), "10>100:1 11>101:1 10>11:90 100>10:" + price + tax
                    + " 100>0:15 101>0:1 10>1:5 11>1:5");
        }
        Hundredward empty = new Hundredward();
        Checks.due("no bonds, no interest", Towns.day(empty), "");
        empty.borrow(1);
        Checks.due("a bond of 1", Towns.day(empty), "0>1:1");
    }

    private static void entriesOfEnds() {
        for (int wage : new int[] {99, 98}) {
            Hundredward town = Towns.peopled(Checks.laid("hf"), 100);
            town.found(1, wage, 1);
            town.setPay(0, wage, 1);
            Checks.due("a firm that fails with " + (100 - wage), Towns.has(Towns.day(town), "10>1:" + (100 - wage)), true);
            Checks.noElement("it failed", () -> town.creditOf(0));
        }
        Hundredward broke = Checks.laid("s");
        broke.found(0, 1, 1);
        broke.pass(10);
        broke.pass(10);
        Checks.due("nothing is left of 100", broke.balance(10), 0);
        Checks.due("a firm that fails with nothing", Towns.day(broke), "");
        Checks.noElement("it failed", () -> broke.creditOf(0));
        for (int money : new int[] {0, 1}) {
            Hundredward town = Towns.peopled(new Hundredward(), money);
            town.pass(3);
            Checks.due("one that starves with " + money, Towns.day(town), money == 0 ? "" : "100>-1:1");
        }
    }

    private static void outside() {
        Checks.terms("what is made comes from -1, what leaves the town goes to -1.");
        Hundredward town = busy();
        town.pass(2);
        town.leave(4);
        town.pass(10);
        int made = 0;
        int left = 0;
        for (int i = 0; i < town.entries(); i++) {
            int from = town.entry(i, 0);
            int to = town.entry(i, 1);
            made += from == -1 ? 1 : 0;
            left += to == -1 ? 1 : 0;
            Checks.due("from -1 to the bank, the treasury or a household", from != -1 || to <= 1 || to >= 100, true);
            Checks.due("to -1 from a household", to != -1 || from >= 100, true);
            Checks.due("between accounts or with one of them", from >= -1 && to >= -1 && from != to, true);
            Checks.due("of more than 0", town.entry(i, 2) > 0, true);
        }
        Checks.due("two and the six who came", made, 8);
        Checks.due("one who left, and those who starved with money", left > 1 && left <= 6, true);
    }

    private static void exactAmounts() {
        Checks.terms("No account is ever less than 0.");
        Hundredward town = Towns.treasury(new Hundredward(), 40);
        Checks.due("the treasury pays all that it has", town.build(0, 'h'), true);
        Checks.due("it has nothing", town.balance(0), 0);
        Checks.badState("it cannot pay again", () -> town.build(1, 'h'));
        Hundredward bonds = Towns.bank(new Hundredward(), 1);
        bonds.borrow(1);
        Checks.due("the bank has nothing", bonds.balance(1), 0);
        Checks.badState("it cannot lend", () -> bonds.borrow(1));
        Hundredward rent = Towns.peopled(Checks.laid("h"), 1);
        rent.pass(1);
        Checks.due("a rent of 1 of 1", rent.balance(100), 0);
        Checks.due("it was paid", rent.homeOf(0), 0);
        rent.pass(1);
        Checks.due("it is not less", rent.balance(100), 0);
        Checks.due("as it was not paid", rent.homeOf(0), -1);
    }

    private static void neverLess() {
        Hundredward town = busy();
        for (int day = 0; day < 30; day++) {
            town.pass(1);
            for (int account : BUSY_ACCOUNTS) {
                Checks.due("account " + account + " is not less", town.balance(account) >= 0, true);
            }
        }
        int[] running = new int[106];
        for (int[] entry : Towns.journal(() -> busyFor(40))) {
            if (entry[0] >= 0) {
                running[entry[0]] -= entry[2];
                Checks.due("nor within a day, account " + entry[0], running[entry[0]] >= 0, true);
            }
            if (entry[1] >= 0) {
                running[entry[1]] += entry[2];
            }
        }
    }
}

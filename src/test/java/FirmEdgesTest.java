/** What Terms say of firms, each sentence at its boundary and on both sides of it. */
public final class FirmEdgesTest {
    public static void main(String[] args) {
        six();
        places();
        wageAndPrice();
        firstCredit();
        jobs();
        freeJobs();
        closed();
        closedWithNothing();
        closedStock();
        closedAlone();
        Checks.finish();
    }

    private static void six() {
        Checks.terms("At most 6 are founded,");
        Hundredward town = Checks.laid("fffff", "ff");
        for (int i = 0; i < 6; i++) {
            Checks.due("firm " + i, town.found(i, 1, 1), i);
        }
        Checks.badState("the seventh", () -> town.found(6, 1, 1));
        Checks.due("nothing is lent", town.balance(1), 1400);
        Checks.outOfBounds("there is none", () -> town.creditOf(6));
        town.pass(10);
        town.pass(10);
        town.pass(1);
        Checks.noElement("all failed", () -> town.creditOf(5));
        Checks.badState("nor after all failed", () -> town.found(0, 1, 1));
    }

    private static void places() {
        Checks.terms("in a shop or a factory without a firm,");
        Hundredward town = Checks.laid("rhw.s", "f");
        for (int i = 0; i < 4; i++) {
            int plot = i;
            Checks.badState("neither a shop nor a factory: " + town.builtOn(i), () -> town.found(plot, 1, 1));
        }
        Checks.due("a shop", town.found(4, 1, 1), 0);
        Checks.due("a factory", town.found(5, 1, 1), 1);
        Checks.badState("a shop with a firm", () -> town.found(4, 1, 1));
        Checks.badState("a factory with a firm", () -> town.found(5, 1, 1));
        Hundredward again = Towns.peopled(Checks.laid("hf"), 100);
        again.found(1, 96, 1);
        again.pass(1);
        Checks.noElement("the firm failed", () -> again.creditOf(0));
        Checks.due("so that the factory has none", again.found(1, 1, 1), 1);
        Checks.badState("but then it has", () -> again.found(1, 1, 1));
    }

    private static void wageAndPrice() {
        Checks.terms("with a wage and a price;");
        for (int pay : new int[] {1, 2, 98, 99}) {
            Hundredward town = Checks.laid("hsfh");
            Towns.skilled(town, 0, 3);
            town.setTolerance(4);
            Checks.due("wage " + pay, town.found(1, pay, 1), 0);
            Checks.due("it is the firm's", town.setPay(0, 1, 1), pay);
            Checks.due("price " + pay, town.found(2, 1, pay), 1);
            int bought = Math.min(4, 99 / pay);
            int left = 4 - bought;
            town.pass(1);
            Checks.due("so many are bought for " + pay, town.stockOf(1), left);
        }
        Hundredward town = Checks.laid("sf");
        for (int pay : new int[] {0, 100, -1, Integer.MIN_VALUE, Integer.MAX_VALUE}) {
            Checks.badArgument("wage " + pay, () -> town.found(0, pay, 1));
            Checks.badArgument("price " + pay, () -> town.found(1, 1, pay));
        }
        Checks.outOfBounds("nothing was founded", () -> town.creditOf(0));
    }

    private static void firstCredit() {
        Checks.terms("they get 100 from the bank as credit.");
        Hundredward less = Towns.bank(Checks.laid("s"), 99);
        Checks.badState("99 are too little", () -> less.found(0, 1, 1));
        Checks.due("the bank keeps them", less.balance(1), 99);
        for (int money : new int[] {100, 101}) {
            Hundredward town = Towns.bank(Checks.laid("s"), money);
            int before = town.entries();
            Checks.due(money + " are enough", town.found(0, 1, 1), 0);
            Checks.due("one entry", Towns.since(town, before), "1>10:100");
            Checks.due("what the bank keeps", town.balance(1), money - 100);
            Checks.due("the credit", town.creditOf(0), 100);
            Checks.due("the money", town.balance(10), 100);
            Checks.due("no stock", town.stockOf(0), 0);
            Checks.due("no workers", town.workersOf(0), 0);
        }
    }

    /** Homes on four sides of 12, and a firm in it. */
    private static Hundredward round(char kind, int households) {
        Hundredward town = Checks.laid(".....", "..h..", ".h" + kind + "h.", "..h..");
        town.found(12, 1, 1);
        for (int i = 0; i < households; i++) {
            town.arrive(0, 100);
        }
        town.pass(1);
        return town;
    }

    private static void jobs() {
        Checks.terms("A factory has 3 jobs, a shop 1.");
        for (int households = 0; households <= 4; households++) {
            int inFactory = Math.min(3, households);
            int inShop = Math.min(1, households);
            Hundredward factory = round('f', households);
            Checks.due("a factory's workers of " + households, factory.workersOf(0), inFactory);
            Hundredward shop = round('s', households);
            Checks.due("a shop's workers of " + households, shop.workersOf(0), inShop);
            for (int i = 0; i < households; i++) {
                Checks.due("who works in the factory", factory.firmOf(i), i < 3 ? 0 : -1);
                Checks.due("who works in the shop", shop.firmOf(i), i < 1 ? 0 : -1);
            }
        }
    }

    private static void freeJobs() {
        Hundredward town = round('f', 4);
        town.leave(1);
        Checks.due("a job is free", town.workersOf(0), 2);
        town.pass(1);
        Checks.due("the fourth one has it", town.firmOf(3), 0);
        Checks.due("three again", town.workersOf(0), 3);
        town.setTolerance(4);
        town.build(16, 's');
        town.found(16, 50, 1);
        town.pass(1);
        Checks.due("who has a firm looks for no other", town.workersOf(1), 0);
    }

    private static void closed() {
        Checks.terms("A firm that fails is closed: its money goes to the bank, its credit and stock are gone, its workers have",
                "no firm, the building stays.");
        Hundredward town = Towns.peopled(Checks.laid("hfh"), 100, 100);
        town.found(1, 48, 1);
        Checks.due("its money goes to the bank", Towns.has(Towns.day(town), "10>1:4"), true);
        Checks.due("its account is empty", town.balance(10), 0);
        Checks.noElement("no credit", () -> town.creditOf(0));
        Checks.noElement("no stock", () -> town.stockOf(0));
        Checks.noElement("no workers", () -> town.workersOf(0));
        Checks.noElement("no pay", () -> town.setPay(0, 1, 1));
        Checks.due("the first one has no firm", town.firmOf(0), -1);
        Checks.due("nor the second one", town.firmOf(1), -1);
        Checks.due("both have their homes", town.homeOf(0) + town.homeOf(1), 2);
        Checks.due("the building stays", town.builtOn(1), 'f');
        Checks.due("isBalanced", town.isBalanced(), true);
        Checks.due("the next firm has another number", town.found(1, 1, 1), 1);
        Checks.due("and no stock of the other one", town.stockOf(1), 0);
        Checks.due("and its own credit", town.creditOf(1), 100);
        town.pass(1);
        Checks.due("it hires them", town.workersOf(1), 2);
        Checks.noElement("the other one stays closed", () -> town.workersOf(0));
        Checks.badState("a firm is in the building", () -> town.takeDown(1));
        Checks.badState("so that no other one is founded there", () -> town.found(1, 1, 1));
    }

    private static void closedWithNothing() {
        Hundredward nothing = Towns.peopled(Checks.laid("hfh"), 100, 100);
        nothing.found(1, 50, 1);
        Checks.due("no entry without money", Towns.has(Towns.day(nothing), "10>1:0"), false);
        Checks.noElement("it failed", () -> nothing.creditOf(0));
        Hundredward enough = Towns.peopled(Checks.laid("hfh"), 100, 100);
        enough.found(1, 47, 1);
        Checks.due("6 are enough for an interest of 5", Towns.has(Towns.day(enough), "10>1:5"), true);
        Checks.due("1 is left", enough.balance(10), 1);
        Checks.due("it has its workers", enough.workersOf(0), 2);
        Checks.due("and its credit", enough.creditOf(0), 100);
    }

    /** A factory with stock fails; nobody can buy it any more, and another firm begins without it. */
    private static void closedStock() {
        Hundredward town = Checks.laid("hsfh");
        Towns.skilled(town, 0, 3);
        town.found(1, 2, 30);
        town.found(2, 96, 99);
        town.pass(1);
        Checks.due("the shop's 98 buy nothing for 99", town.balance(10), 93);
        Checks.noElement("the factory failed with its four pieces", () -> town.stockOf(1));
        town.found(2, 1, 1);
        town.leave(1);
        town.takeDown(3);
        town.pass(1);
        Checks.due("nothing in the new factory", town.stockOf(2), 0);
        Checks.due("nothing to buy for the shop", town.stockOf(0), 0);
        Checks.due("isBalanced", town.isBalanced(), true);
    }

    private static void closedAlone() {
        Hundredward town = Towns.peopled(Checks.laid("hf.sh"), 300, 200);
        town.found(1, 2, 1);
        town.found(3, 96, 1);
        town.pass(1);
        Checks.noElement("the second firm failed", () -> town.creditOf(1));
        Checks.due("its worker has no firm", town.firmOf(1), -1);
        Checks.due("the worker of the first one has", town.firmOf(0), 0);
        Checks.due("which is as it was", town.workersOf(0) * 1000 + town.creditOf(0), 1100);
        Checks.due("with its stock", town.stockOf(0), 1);
        Checks.due("and its money", town.balance(10), 93);
    }
}

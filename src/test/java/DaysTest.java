/** Promises 12, 13, 22, 27 and 38: the twelve steps of a day, each by itself. */
public final class DaysTest {
    public static void main(String[] args) {
        flood();
        bids();
        bidsOfNothing();
        greatestRent();
        jobs();
        jobsByWage();
        jobsBehindNoWay();
        firstWay();
        changedWay();
        fewestRoads();
        noWayToWork();
        water();
        goods();
        fullFactory();
        wages();
        wagesUpToTheCredit();
        wagesUpToTheBank();
        freight();
        freightFromTheCheapest();
        shopWithoutWorker();
        shopOfAnUnpaidWorker();
        salesTax();
        cheapestShop();
        starving();
        rents();
        repaying();
        names();
        Checks.finish();
    }

    private static Hundredward peopled(Hundredward town, int... money) {
        for (int each : money) {
            town.arrive(0, each);
        }
        return town;
    }

    private static void flood() {
        Hundredward town = peopled(Checks.laid("hf"), 100);
        town.found(1, 1, 1);
        town.pass(1);
        Checks.due("the name without water", town.nameOf(0), 4);
        town.setHeight(0, 1);
        town.setRiver(2);
        Checks.due("the flood comes with the day", town.homeOf(0), 0);
        town.pass(1);
        Checks.due("a flooded home is lost", town.homeOf(0), -1);
        Checks.due("and the firm with it", town.firmOf(0), -1);
        Checks.due("the firm has no worker", town.workersOf(0), 0);
        Checks.due("it was no worker that day", town.costOf(0), -1);
        Checks.due("the name is 3 less", town.nameOf(0), 1);
        Checks.noElement("no rent there", () -> town.rentOf(0));
        town.pass(1);
        Checks.due("a free home is not flooded again", town.nameOf(0), 1);
        town.leave(0);
        town.setRiver(0);
        peopled(town, 50).pass(1);
        Checks.due("the next one has it", town.homeOf(1), 0);
        town.setRiver(2);
        town.pass(1);
        Checks.due("a name is not below 0", town.nameOf(0), 0);
    }

    private static void bids() {
        Hundredward town = peopled(Checks.laid("hhh"), 109, 200, 100, 209);
        town.pass(1);
        Checks.due("the first of equal bids", town.homeOf(1), 0);
        Checks.due("an equal bid is the second greatest", town.rentOf(0), 25);
        Checks.due("then the other one", town.homeOf(3), 1);
        Checks.due("109 bids as 100 does", town.rentOf(1), 15);
        Checks.due("the first again", town.homeOf(0), 2);
        Checks.due("its rent", town.rentOf(2), 15);
        Checks.due("one is left", town.homeOf(2), -1);
        town.leave(1);
        town.pass(1);
        Checks.due("it gets the free home", town.homeOf(2), 0);
        Checks.due("for 1, as nobody else bids", town.rentOf(0), 1);
    }

    /** Those who cannot pay lower the name day by day, until a bid is 0. */
    private static void bidsOfNothing() {
        Hundredward town = peopled(Checks.laid("h"), 0, 0);
        town.pass(1);
        Checks.due("who cannot pay has no home", town.homeOf(0), -1);
        Checks.due("and the name is less", town.nameOf(0), 4);
        town.pass(3);
        Checks.due("all starved", town.households(), 0);
        Checks.due("the name after three days", town.nameOf(0), 2);
        peopled(town, 0, 0).pass(2);
        Checks.due("the name after five days", town.nameOf(0), 0);
        town.leave(2);
        town.leave(3);
        peopled(town, 9, 0).pass(1);
        Checks.due("the first of bids of 0", town.homeOf(4), 0);
        Checks.due("a second bid of 0 makes 1", town.rentOf(0), 1);
        Checks.due("which is paid", town.balance(104), 8);
    }

    private static void greatestRent() {
        Hundredward town = peopled(Checks.laid("h"), 999, 460);
        town.pass(1);
        Checks.due("46 and 5 are 51, but 50 is the greatest rent", town.rentOf(0), 50);
        Hundredward less = peopled(Checks.laid("h"), 999, 459);
        less.pass(1);
        Checks.due("45 and 5 are 50", less.rentOf(0), 50);
        Hundredward least = peopled(Checks.laid("h"), 999, 449);
        least.pass(1);
        Checks.due("44 and 5 are 49", least.rentOf(0), 49);
    }

    private static void jobs() {
        Hundredward town = peopled(Checks.laid("hrh..", "hrh..", ".fs.."), 400, 300, 200, 100);
        town.found(11, 5, 5);
        town.pass(1);
        Checks.due("a factory has three jobs", town.workersOf(0), 3);
        Checks.due("the fourth has none", town.firmOf(3), -1);
        Checks.due("it is no worker", town.costOf(3), -1);
        town.found(12, 1, 5);
        town.pass(1);
        Checks.due("a shop has a job", town.firmOf(3), 1);
        town.leave(0);
        peopled(town, 90, 80).pass(1);
        Checks.due("the free job is taken", town.firmOf(4), 0);
        Checks.due("one without a home has none", town.firmOf(5), -1);
        Checks.due("who has a firm keeps it", town.firmOf(3), 1);
        Hundredward shop = peopled(Checks.laid("hsh"), 100, 100);
        shop.found(1, 5, 5);
        shop.pass(1);
        Checks.due("a shop has one job", shop.firmOf(1), -1);
        Checks.due("for the first", shop.firmOf(0), 0);
    }

    private static void jobsByWage() {
        Hundredward town = peopled(Checks.laid("shs", ".f"), 100);
        town.found(0, 5, 5);
        town.found(2, 6, 5);
        town.found(6, 6, 5);
        town.pass(1);
        Checks.due("the greatest wage, of several the first", town.firmOf(0), 1);
        town.setPay(0, 99, 5);
        town.pass(1);
        Checks.due("who has a firm does not change it", town.firmOf(0), 1);
    }

    private static void jobsBehindNoWay() {
        Hundredward town = peopled(Checks.laid("h.s", "f"), 100);
        town.found(2, 99, 5);
        town.found(5, 1, 5);
        town.pass(1);
        Checks.due("no way to the greatest wage", town.firmOf(0), 1);
    }

    private static Hundredward ring() {
        Hundredward town = Checks.laid("rrrrh", "h...f", "rrrrr");
        town.found(9, 1, 1);
        return town;
    }

    private static void firstWay() {
        Hundredward town = Checks.laid("rrr", "h.f", "rrr");
        town.found(7, 1, 1);
        peopled(town, 100).pass(1);
        Checks.due("three roads", town.costOf(0), 3);
        Checks.due("the upper way is the first", town.load(0) + town.load(1) + town.load(2), 3);
        Checks.due("nobody goes below", town.load(10) + town.load(11) + town.load(12), 0);
        Checks.due("a home is no road of its way", town.load(5), 0);
        Checks.due("nor is the firm's plot", town.load(7), 0);
        town.takeDown(1);
        Checks.due("the load is the last day's", town.load(1), 1);
        Checks.due("the cost is the last day's", town.costOf(0), 3);
        Checks.due("it had no cheaper way as things were then", town.isBalanced(), true);
        town.pass(1);
        Checks.due("the lower way is left", town.load(11), 1);
        Checks.due("nobody goes above", town.load(0), 0);
    }

    /** The first one goes above, the second one then has to go over 3 as well, so that the first one goes below. */
    private static void changedWay() {
        Hundredward town = Checks.laid("rrrrh", "h..f.", "rrrr.");
        town.found(8, 1, 1);
        peopled(town, 100, 200).pass(1);
        Checks.due("the second one at 4", town.homeOf(1), 4);
        Checks.due("the second one over 3", town.costOf(1), 1);
        Checks.due("nobody else over 3", town.load(3), 1);
        Checks.due("the first one below", town.costOf(0), 4);
        Checks.due("over 13", town.load(13), 1);
        Checks.due("not over 0", town.load(0), 0);
        Checks.due("isBalanced", town.isBalanced(), true);
        town.build(9, 'r');
        town.pass(1);
        Checks.due("each day begins anew: the first one above", town.load(0), 1);
        Checks.due("and stays there", town.costOf(0), 4);
        Checks.due("as the second one goes over 9", town.load(9), 1);
        Checks.due("nobody below", town.load(13), 0);
        Hundredward beside = ring();
        peopled(beside, 100, 200).pass(1);
        Checks.due("a neighbour goes over no road", beside.costOf(1), 0);
        Checks.due("the other one below, as a home is no road", beside.load(14), 1);
    }

    /** Two go over 12 and 7; for the third one 7 costs as much as 1, 2 and 3. */
    private static void fewestRoads() {
        Hundredward town = Checks.laid(".rrr.", ".hrf.", ".hr..", "..h..");
        town.found(8, 1, 1);
        peopled(town, 200, 100, 300).pass(1);
        Checks.due("the third one at 6", town.homeOf(2), 6);
        Checks.due("one road that two others use", town.costOf(2), 3);
        Checks.due("all over 7", town.load(7), 3);
        Checks.due("nobody over 1", town.load(1), 0);
        Checks.due("two roads, one with one other, one with two", town.costOf(0), 5);
        Checks.due("the same for the second one", town.costOf(1), 5);
    }

    private static void noWayToWork() {
        Hundredward town = peopled(Checks.laid("hrf"), 100);
        town.found(2, 10, 5);
        town.pass(1);
        Checks.due("seven by four, halved", town.stockOf(0), 0);
        Checks.due("it worked", town.balance(100), 108);
        town.takeDown(1);
        town.pass(1);
        Checks.due("it has its firm", town.firmOf(0), 0);
        Checks.due("but it is no worker", town.costOf(0), -1);
        Checks.due("and is not paid", town.balance(100), 107);
        Checks.due("nobody goes anywhere", town.load(1), 0);
        town.build(1, 'r');
        town.setHeight(2, 0);
        town.setRiver(1);
        town.pass(1);
        Checks.due("nor if the firm is flooded", town.costOf(0), -1);
        town.setRiver(0);
        Checks.due("one that comes later was no worker", town.costOf(town.arrive(0, 1)), -1);
    }

    private static void water() {
        Hundredward town = Checks.laid(".h...", "hwh..", "hrh..", "hrh..", ".h...");
        town.pass(1);
        for (int plot : new int[] {1, 5, 7, 10, 12, 15}) {
            Checks.due("water at " + plot, town.hadWater(plot), true);
        }
        for (int plot : new int[] {17, 21, 6, 11, 0, 24}) {
            Checks.due("no water at " + plot, town.hadWater(plot), false);
        }
        town.build(22, 'w');
        Checks.due("not before the day", town.hadWater(17), false);
        town.pass(1);
        Checks.due("the second one serves 17", town.hadWater(17), true);
        Checks.due("the second one serves 21", town.hadWater(21), true);
        town.setHeight(6, 0);
        town.setRiver(1);
        town.pass(1);
        Checks.due("flooded waterworks serve nobody", town.hadWater(1), false);
        Checks.due("the other ones do", town.hadWater(21), true);
        town.setHeight(6, 5);
        town.setHeight(5, 0);
        town.pass(1);
        Checks.due("a flooded plot is not served", town.hadWater(5), false);
        Checks.due("but another one is", town.hadWater(15), true);
        Hundredward kinds = Checks.laid(".s...", "fwr..", ".w...");
        kinds.pass(1);
        Checks.due("a shop is served", kinds.hadWater(1), true);
        Checks.due("a factory is served", kinds.hadWater(5), true);
        Checks.due("a road is not", kinds.hadWater(7), false);
        Checks.due("waterworks are not", kinds.hadWater(11), false);
    }

    /** What one worker of a skill makes on one day at the end of a row of roads. */
    private static int made(int skill, String row, boolean water) {
        Hundredward town = Checks.laid(row, row.replaceAll(".", ".").substring(1) + (water ? "w" : ""));
        town.arrive(skill, 100);
        town.found(row.length() - 1, 1, 1);
        town.pass(1);
        Checks.due("isBalanced", town.isBalanced(), true);
        return town.stockOf(0);
    }

    private static void goods() {
        Checks.due("4 by 8 by 4", made(3, "hf", true), 8);
        Checks.due("halved", made(3, "hf", false), 4);
        Checks.due("1 by 8 by 4", made(0, "hf", true), 2);
        Checks.due("1 by 7 by 4", made(0, "hrf", true), 1);
        Checks.due("1 by 7 by 4, halved", made(0, "hrf", false), 0);
        Checks.due("3 by 7 by 4", made(2, "hrf", true), 5);
        Checks.due("3 by 7 by 4, halved", made(2, "hrf", false), 2);
        Checks.due("2 by 6 by 4", made(1, "hrrf", true), 3);
        Checks.due("in a shop none", made(3, "hs", true), 0);
        Hundredward far = Checks.laid("hrrrr", "....r", "rrrrr", "f");
        far.arrive(3, 100);
        far.found(15, 7, 1);
        far.pass(1);
        Checks.due("ten roads", far.costOf(0), 10);
        Checks.due("no less than none", far.stockOf(0), 0);
        Checks.due("it is paid all the same", far.balance(100), 106);
        Checks.due("isBalanced", far.isBalanced(), true);
    }

    private static void fullFactory() {
        Hundredward town = Checks.laid(".h...", "hfh..", ".w...");
        for (int i = 0; i < 3; i++) {
            town.arrive(3, 100);
        }
        town.found(6, 1, 1);
        town.pass(2);
        Checks.due("24 a day", town.stockOf(0), 48);
        town.pass(1);
        Checks.due("60 at most", town.stockOf(0), 60);
        Checks.due("what is more is lost", town.isBalanced(), true);
    }

    private static void wages() {
        Hundredward town = peopled(Checks.laid("hf"), 100);
        town.found(1, 19, 1);
        int entries = town.entries();
        town.pass(1);
        Checks.due("19 less 1 of tax less 1 of rent", town.balance(100), 117);
        int[][] due = {{10, 100, 19}, {100, 0, 1}, {100, 0, 1}, {10, 1, 5}};
        for (int i = 0; i < due.length; i++) {
            for (int what = 0; what < 3; what++) {
                Checks.due("entry of the day " + i + " " + what, town.entry(entries + i, what), due[i][what]);
            }
        }
        Checks.due("no more of them", town.entries(), entries + due.length);
        Hundredward low = peopled(Checks.laid("hf"), 100);
        low.found(1, 9, 1);
        low.pass(1);
        Checks.due("a tax of 0 is no entry", low.entries(), 2 + 2 + 1 + 1 + 3);
    }

    /** After a day the factory has a credit of 297, and 69 of what the shop paid it for twelve pieces at 7. */
    private static Hundredward indebted(int wage) {
        Hundredward town = Checks.laid(".h...", "hfsh.", ".h...");
        for (int i = 0; i < 4; i++) {
            town.arrive(3, 100);
        }
        town.found(6, 99, 7);
        town.found(7, 1, 20);
        town.pass(1);
        Checks.due("three in the factory", town.workersOf(0), 3);
        Checks.due("its credit", town.creditOf(0), 297);
        Checks.due("its money", town.balance(10), 69);
        Checks.due("the shop's money", town.balance(11), 29);
        town.setPay(0, wage, 7);
        town.pass(1);
        return town;
    }

    private static void wagesUpToTheCredit() {
        Hundredward up = indebted(72);
        Checks.due("a credit of 300 is given", up.creditOf(0), 300);
        Checks.due("to pay the first one", up.firmOf(0), 0);
        Checks.due("but not the second one", up.firmOf(1), -1);
        Checks.due("nor the last one", up.firmOf(3), -1);
        Checks.due("one worker is left", up.workersOf(0), 1);
        Checks.due("28 of the shop less 15 of interest", up.balance(10), 13);
        Checks.due("all three worked", up.stockOf(0), 8);
        Checks.due("and had no roads to go", up.costOf(3), 0);
        Hundredward over = indebted(73);
        Checks.due("a credit of 301 is not given", over.creditOf(0), 297);
        Checks.due("the first one is not paid", over.firmOf(0), -1);
        Checks.due("nobody is left", over.workersOf(0), 0);
        Checks.due("the firm keeps its money", over.balance(10), 82);
        over.setPay(0, 10, 7);
        over.pass(1);
        Checks.due("they take the job again", over.workersOf(0), 3);
    }

    private static Hundredward withPoorBank(int left) {
        Hundredward town = peopled(Checks.laid("hfh"), 100, 100);
        town.found(1, 60, 1);
        town.borrow(999);
        town.borrow(901 - left);
        Checks.due("the bank has", town.balance(1), left);
        town.pass(1);
        return town;
    }

    private static void wagesUpToTheBank() {
        Hundredward paid = withPoorBank(20);
        Checks.due("60 less 6 of tax less 1 of rent", paid.balance(101), 153);
        Checks.noElement("but the firm cannot pay 6 of interest", () -> paid.creditOf(0));
        Hundredward unpaid = withPoorBank(19);
        Checks.due("the bank has not the 20", unpaid.balance(101), 99);
        Checks.due("the second one has no firm", unpaid.firmOf(1), -1);
        Checks.due("the first one has", unpaid.firmOf(0), 0);
        Checks.due("40 less 5 of interest", unpaid.balance(10), 35);
        Checks.due("no more credit", unpaid.creditOf(0), 100);
    }

    private static void freight() {
        Hundredward town = Checks.laid("hsh..", "hfh..", ".w...");
        for (int i = 0; i < 4; i++) {
            town.arrive(3, 100);
        }
        town.found(6, 1, 2);
        town.found(1, 1, 10);
        town.pass(1);
        Checks.due("sixteen pieces less two that are sold", town.stockOf(1), 14);
        Checks.due("none is left in the factory", town.stockOf(0), 0);
        Checks.due("the shop paid 32, and got 20", town.balance(11), 100 - 1 - 32 + 20 - 5);
        Checks.due("the factory got 32", town.balance(10), 100 - 2 + 32 - 5);
        town.pass(1);
        Checks.due("up to twenty pieces less two that are sold", town.stockOf(1), 18);
        Checks.due("the other ten stay", town.stockOf(0), 10);
        Checks.due("isBalanced", town.isBalanced(), true);
    }

    private static Hundredward twoFactories() {
        Hundredward town = Checks.laid(".h.h.", ".fsf.", "..h..");
        for (int i = 0; i < 3; i++) {
            town.arrive(3, 100);
        }
        town.found(6, 1, 5);
        town.found(8, 1, 3);
        town.found(7, 1, 9);
        return town;
    }

    private static void freightFromTheCheapest() {
        Hundredward town = twoFactories();
        town.pass(1);
        Checks.due("eight pieces less one", town.stockOf(2), 7);
        Checks.due("four for 5", town.balance(10), 100 - 1 + 20 - 5);
        Checks.due("four for 3", town.balance(11), 100 - 1 + 12 - 5);
        Checks.due("the shop", town.balance(12), 100 - 1 - 32 + 9 - 5);
        town.setPay(0, 1, 40);
        town.setPay(1, 1, 30);
        town.pass(1);
        Checks.due("two for 30", town.balance(11), 106 - 1 + 60 - 5);
        Checks.due("none for 40", town.stockOf(0), 4);
        Checks.due("the shop has 14", town.balance(12), 71 - 1 - 60 + 9 - 5);
        town.setPay(0, 1, 13);
        town.setPay(1, 1, 13);
        town.pass(1);
        Checks.due("of several the first one", town.stockOf(0), 7);
        Checks.due("not the second one", town.stockOf(1), 6);
        Checks.due("isBalanced", town.isBalanced(), true);
    }

    private static void shopWithoutWorker() {
        Hundredward town = twoFactories();
        town.leave(2);
        town.pass(1);
        Checks.due("a shop without a worker buys nothing", town.stockOf(2), 0);
        peopled(town, 100).pass(1);
        Checks.due("with a worker it does", town.stockOf(2), 15);
        Checks.due("and sells", town.hungerOf(3), 0);
        town.leave(3);
        town.setTolerance(2);
        town.build(2, 'r');
        town.pass(1);
        Checks.due("without one it sells nothing", town.stockOf(2), 15);
        Checks.due("to those who could come", town.way(1, 7), 1);
        Checks.due("who are hungry", town.hungerOf(0), 3);
    }

    private static void shopOfAnUnpaidWorker() {
        Hundredward town = Checks.laid("hsfh");
        town.arrive(3, 100);
        town.arrive(3, 100);
        town.found(1, 99, 10);
        town.found(2, 1, 1);
        town.pass(1);
        Checks.due("a wage of 99 leaves 1 for a piece that brings 10", town.balance(10), 5);
        town.borrow(999);
        town.borrow(town.balance(1));
        town.pass(1);
        Checks.due("the worker is not paid", town.firmOf(0), -1);
        Checks.due("the shop bought five all the same, and sold one", town.stockOf(0), 4);
        Checks.due("to its worker", town.hungerOf(0), 0);
    }

    /** What the shop's only customer pays, and what of it goes on as a tax; 0 if there is no entry of one. */
    private static void taxed(int price, int tax) {
        Hundredward town = Checks.laid("hsfh");
        town.arrive(0, 100);
        town.arrive(3, 100);
        town.found(1, 1, price);
        town.found(2, 1, 1);
        int treasury = town.balance(0);
        town.pass(1);
        Checks.due("tax on " + price, town.balance(0), treasury + tax + 15 + 1);
        Checks.due("the shop's money at " + price, town.balance(10), 100 - 1 - 4 + price - tax - 5);
        Checks.due("the customer's money at " + price, town.balance(100), 100 + 1 - price - 15);
    }

    private static void salesTax() {
        taxed(19, 0);
        taxed(20, 1);
        taxed(39, 1);
        taxed(40, 2);
        taxed(86, 4);
    }

    /** Homes at 0 and 2 for the shops' workers, at 16 for the factory's, and at 6 beside all three. */
    private static void cheapestShop() {
        Hundredward town = Checks.laid("h.h..", "shs..", "rfr..", ".h...");
        for (int i = 0; i < 4; i++) {
            town.arrive(3, 300);
        }
        town.found(11, 2, 1);
        town.found(7, 1, 10);
        town.pass(1);
        Checks.due("two have a way to the shop", town.stockOf(1), 6);
        Checks.due("one has none", town.hungerOf(0), 1);
        town.found(5, 1, 10);
        town.pass(3);
        Checks.due("two came to the first of the shops", town.stockOf(1), 18);
        Checks.due("one came to the second one", town.stockOf(2), 5);
        Checks.due("the one without a way to any starved", town.households(), 3);
        int before = town.balance(102);
        town.setPay(2, 1, 9);
        town.pass(1);
        Checks.due("the cheapest one's price", town.balance(102), before + 2 - 9 - 35);
        Checks.due("one came to the first shop", town.stockOf(1), 19);
        town.setPay(1, 1, 99);
        town.setPay(2, 1, 99);
        town.pass(1);
        Checks.due("a price that it cannot pay", town.balance(102), before - 42 + 2 - 35);
        Checks.due("so that it is hungry", town.hungerOf(2), 1);
    }

    private static void starving() {
        Hundredward town = peopled(Checks.laid("hf"), 100, 60);
        town.found(1, 10, 1);
        town.pass(3);
        Checks.due("hunger with a home", town.hungerOf(0), 3);
        Checks.due("hunger without a home", town.hungerOf(1), 3);
        int treasury = town.balance(0);
        long money = town.money();
        int taken = town.balance(100) + 9 + town.balance(101);
        town.pass(1);
        Checks.due("both left", town.households(), 0);
        Checks.due("a last wage was paid, but no rent", town.balance(0), treasury + 1);
        Checks.due("they took their money along", town.money(), money - taken);
        Checks.noElement("the home is free", () -> town.rentOf(0));
        Checks.due("so is the job", town.workersOf(0), 0);
        Checks.due("the name is as it was", town.nameOf(0), 2);
        Checks.due("it worked on that day", town.stockOf(0), 4);
    }

    private static void rents() {
        Hundredward town = peopled(Checks.laid("h"), 10, 20);
        town.leave(0);
        peopled(town, 0).pass(1);
        Checks.due("the second bid is 5", town.rentOf(0), 5);
        town.pass(1);
        Checks.due("15 less 5", town.balance(101), 10);
        town.pass(1);
        Checks.due("5 can be paid with 10", town.homeOf(1), 0);
        Hundredward poor = peopled(Checks.laid("hf"), 9, 0);
        poor.found(1, 1, 1);
        poor.pass(1);
        Checks.due("10 less 5", poor.balance(100), 5);
        poor.setPay(0, 99, 1);
        poor.setHeight(1, 0);
        poor.setRiver(1);
        poor.pass(1);
        Checks.due("5 less 5", poor.balance(100), 0);
        Checks.due("it has its home yet", poor.homeOf(0), 0);
        poor.pass(1);
        Checks.due("it cannot pay", poor.homeOf(0), -1);
        Checks.due("its firm is lost, too", poor.firmOf(0), -1);
        Checks.due("the name is 1 less, once", poor.nameOf(0), 2);
        Checks.noElement("no rent there", () -> poor.rentOf(0));
    }

    /** A shop with two customers at 57, less 2 of tax each, and three pieces at 1. */
    private static Hundredward repaid(int wage) {
        Hundredward town = Checks.laid("hsfh", ".h...");
        town.arrive(0, 100);
        town.arrive(2, 100);
        town.arrive(0, 100);
        town.found(1, wage, 57);
        town.found(2, 1, 1);
        town.pass(1);
        return town;
    }

    private static void repaying() {
        Hundredward just = repaid(2);
        Checks.due("with 200 nothing is paid back", just.balance(10), 200);
        Checks.due("nor is the credit less", just.creditOf(0), 100);
        Hundredward more = repaid(1);
        Checks.due("with 201 it is 10", more.balance(10), 191);
        Checks.due("the credit is less", more.creditOf(0), 90);
        int last = more.entries() - 1;
        Checks.due("to the bank", more.entry(last, 1), 1);
        Checks.due("the last entry of the day", more.entry(last, 2), 10);
    }

    private static void names() {
        Hundredward town = Checks.laid("hsfh", "w....");
        town.arrive(0, 300);
        town.arrive(3, 100);
        town.found(1, 1, 1);
        town.found(2, 1, 1);
        town.pass(1);
        Checks.due("water and no hunger", town.nameOf(0), 6);
        Checks.due("neither water nor food", town.nameOf(3), 4);
        town.pass(2);
        Checks.due("three days", town.nameOf(0), 8);
        town.pass(2);
        Checks.due("9 at most", town.nameOf(0), 9);
        town.takeDown(5);
        town.pass(1);
        Checks.due("food alone", town.nameOf(0), 8);
        town.build(5, 'w');
        town.setPay(0, 1, 99);
        town.pass(1);
        Checks.due("water, and food for 99", town.nameOf(0), 9);
        town.pass(1);
        Checks.due("98 are too little", town.hungerOf(0), 1);
        Checks.due("water alone", town.nameOf(0), 8);
        Checks.due("a plot that nobody has keeps its name", town.nameOf(24), 5);
        Hundredward low = peopled(Checks.laid("h"), 999);
        for (int i = 0; i < 3; i++) {
            low.pass(3);
            low.leave(i);
            peopled(low, 999);
        }
        Checks.due("0 at least", low.nameOf(0), 0);
    }
}

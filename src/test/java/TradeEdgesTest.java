/** What Terms say of the steps 6 to 8 of a day, each sentence at its boundary and on both sides of it. */
public final class TradeEdgesTest {
    public static void main(String[] args) {
        goods();
        dryGoods();
        goodsInShops();
        stockOfFactories();
        wagesAndCredit();
        greatestCredit();
        poorBank();
        unpaid();
        incomeTax();
        otherIncomeTaxes();
        stockOfShops();
        shopsThatCanPay();
        cheapestFactory();
        factoriesByWay();
        shopsWithoutWork();
        shopOfAnUnpaidWorker();
        cheapestShop();
        shopsWithWorkersAway();
        shopsWithStock();
        shopsByWay();
        customersThatCanPay();
        salesTax();
        otherSalesTaxes();
        hunger();
        hungerOfFour();
        Checks.finish();
    }

    /** The plots of a long way from the home at 0 on, and for each of them one beside it for waterworks. */
    private static final int[] LONG_WAY = {0, 1, 2, 3, 4, 9, 14, 13, 12, 11, 10};
    private static final int[] WORKS = {5, 6, 7, 8, 9, 8, 19, 18, 17, 16, 15};

    /** What one worker of a skill makes in a factory behind so many roads. */
    private static int made(int skill, int roads, boolean water) {
        Hundredward town = Checks.laid("h");
        for (int i = 1; i <= roads; i++) {
            town.build(LONG_WAY[i], 'r');
        }
        int plot = LONG_WAY[roads + 1];
        town.build(plot, 'f');
        if (water) {
            town.build(WORKS[roads + 1], 'w');
        }
        town.found(plot, 1, 1);
        town.arrive(skill, 100);
        town.pass(1);
        Checks.due("the cost", town.costOf(0), roads);
        Checks.due("water in the factory", town.hadWater(plot), water);
        Checks.due("it works all the same", town.balance(10), 94);
        Checks.due("isBalanced", town.isBalanced(), true);
        return town.stockOf(0);
    }

    private static final int[][] GOODS = {
        {2, 1, 1, 1, 1, 0, 0, 0, 0, 0}, {4, 3, 3, 2, 2, 1, 1, 0, 0, 0},
        {6, 5, 4, 3, 3, 2, 1, 0, 0, 0}, {8, 7, 6, 5, 4, 3, 2, 1, 0, 0}};

    private static void goods() {
        Checks.terms("6. Work: each worker works, and makes (1 plus the skill) times (8 less the cost) goods, divided by 4,",
                "rounded down, at least 0,");
        for (int skill = 0; skill <= 3; skill++) {
            for (int roads = 0; roads <= 9; roads++) {
                Checks.due("skill " + skill + " over " + roads, made(skill, roads, true), GOODS[skill][roads]);
            }
        }
    }

    private static void dryGoods() {
        Checks.terms("half of that, rounded down, if the factory has no water;");
        for (int skill = 0; skill <= 3; skill++) {
            for (int roads = 0; roads <= 9; roads++) {
                Checks.due("dry, skill " + skill + " over " + roads, made(skill, roads, false), GOODS[skill][roads] / 2);
            }
        }
    }

    private static void goodsInShops() {
        Checks.terms("in a shop none.");
        Hundredward town = Towns.skilled(Checks.laid("hsw"), 3);
        town.found(1, 1, 1);
        town.pass(1);
        Checks.due("it works in the shop", town.costOf(0), 0);
        Checks.due("with water", town.hadWater(1), true);
        Checks.due("it is paid", town.balance(10), 94);
        Checks.due("nothing is made", town.stockOf(0), 0);
        Checks.due("isBalanced", town.isBalanced(), true);
    }

    /** Four days of three workers without water make 48; then three others make what is asked for. */
    private static Hundredward stockedUp(int... skills) {
        Hundredward town = Towns.skilled(Checks.laid(".h...", "hfh.."), 3, 3, 3);
        town.found(6, 1, 1);
        town.pass(4);
        Checks.due("four days", town.stockOf(0), 48);
        Towns.skilled(town, skills).pass(1);
        return town;
    }

    private static void stockOfFactories() {
        Checks.terms("The stock of a factory is at most 60; what is more is lost.");
        Checks.due("48 and 11", stockedUp(3, 3, 2).stockOf(0), 59);
        Checks.due("48 and 12", stockedUp(3, 3, 3).stockOf(0), 60);
        for (int skill = 0; skill <= 2; skill++) {
            Hundredward town = stockedUp(3, 3, 2);
            for (int i = 3; i < 6; i++) {
                town.leave(i);
            }
            Towns.skilled(town, skill).pass(1);
            Checks.due("59 and " + (skill + 1), town.stockOf(0), 60);
            Checks.due("isBalanced", town.isBalanced(), true);
            town.pass(1);
            Checks.due("60 and " + (skill + 1), town.stockOf(0), 60);
            Checks.due("isBalanced then", town.isBalanced(), true);
        }
    }

    private static void wagesAndCredit() {
        Checks.terms("Then the firm pays the wage: if its money is less, it gets what is wanting from the bank as credit,");
        String[] lent = {"", "", " 1>10:2"};
        String[] ends = {" 10>1:2", "", ""};
        for (int i = 0; i < 3; i++) {
            int wage = 49 + i;
            Hundredward town = Towns.peopled(Checks.laid("hfh"), 100, 100);
            town.found(1, wage, 1);
            int tax = wage / 10;
            Checks.due("two wages of " + wage + " of 100", Towns.day(town), "10>100:" + wage + " 100>0:" + tax + lent[i]
                    + " 10>101:" + wage + " 101>0:" + tax + " 100>0:15 101>0:1" + ends[i]);
        }
        Hundredward more = indebted(70);
        Checks.due("69 and 1 for a wage of 70", more.creditOf(0), 298);
        Hundredward exact = indebted(69);
        Checks.due("69 for a wage of 69", exact.firmOf(0), 0);
        Checks.due("no credit for the first, none to be had for the others", exact.creditOf(0), 297);
    }

    /** After a day the factory has a credit of 297, and 69 of what the shop paid it for twelve pieces at 7. */
    private static Hundredward indebted(int wage) {
        Hundredward town = Towns.skilled(Checks.laid(".h...", "hfsh.", ".h..."), 3, 3, 3, 3);
        town.found(6, 99, 7);
        town.found(7, 1, 20);
        town.pass(1);
        Checks.due("three in the factory", town.workersOf(0), 3);
        Checks.due("its credit", town.creditOf(0), 297);
        Checks.due("its money", town.balance(10), 69);
        town.setPay(0, wage, 7);
        town.pass(1);
        return town;
    }

    private static void greatestCredit() {
        Checks.terms("if its credit is not more than 300 with this and the bank has it;");
        for (int wage = 71; wage <= 73; wage++) {
            Hundredward town = indebted(wage);
            boolean paid = wage <= 72;
            Checks.due("the first one is paid " + wage, town.firmOf(0), paid ? 0 : -1);
            Checks.due("the credit with " + wage, town.creditOf(0), paid ? 228 + wage : 297);
            Checks.due("the second one is not", town.firmOf(1), -1);
            Checks.due("nor the last one", town.firmOf(3), -1);
            Checks.due("the shop's worker is", town.firmOf(2), 1);
            Checks.due("workers", town.workersOf(0), paid ? 1 : 0);
        }
    }

    private static void poorBank() {
        for (int money = 19; money <= 21; money++) {
            Hundredward town = Towns.peopled(Checks.laid("hfh"), 100, 100);
            town.found(1, 60, 1);
            Towns.bank(town, money);
            String day = Towns.day(town);
            boolean lent = money >= 20;
            Checks.due("the bank lends of " + money, Towns.has(day, "1>10:20"), lent);
            Checks.due("the second one is paid", Towns.has(day, "10>101:60"), lent);
            Checks.due("the first one was", Towns.has(day, "10>100:60"), true);
            if (!lent) {
                Checks.due("no more credit", town.creditOf(0), 100);
                Checks.due("the second one has no firm", town.firmOf(1), -1);
                Checks.due("the first one has", town.firmOf(0), 0);
            }
        }
    }

    private static void unpaid() {
        Checks.terms("otherwise the household is not paid, and has no firm any more.");
        Hundredward town = indebted(73);
        Checks.due("workers", town.workersOf(0), 0);
        Checks.due("the first one's cost is that of one who worked", town.costOf(0), 0);
        Checks.due("they made twelve, which the shop bought four of", town.stockOf(0), 8);
        Checks.due("no money but the rent went from the first one", town.balance(100), 100 + 90 - 2 * 15);
        town.setPay(0, 1, 7);
        town.pass(1);
        Checks.due("they are hired again", town.workersOf(0), 3);
        Checks.due("and paid", town.balance(100), 161 - 15);
    }

    /** What the one worker has after a day, of the 100 that it came with, before its rent of 1. */
    private static int earned(Hundredward town, int wage) {
        town.found(1, wage, 1);
        int household = town.arrive(0, 100);
        town.pass(1);
        return town.balance(100 + household) - 99;
    }

    private static void incomeTax() {
        Checks.terms("Of a wage that is paid, the income tax, a percentage rounded down, 10 at first, goes on to the treasury.");
        int[][] wagesAndTaxes = {{1, 0}, {9, 0}, {10, 1}, {11, 1}, {19, 1}, {20, 2}, {90, 9}, {99, 9}};
        for (int[] pair : wagesAndTaxes) {
            Hundredward town = Checks.laid("hf");
            int treasury = town.balance(0);
            Checks.due("what is left of " + pair[0], earned(town, pair[0]), pair[0] - pair[1]);
            Checks.due("what the treasury has of it", town.balance(0), treasury + pair[1] + 1);
        }
        Checks.due("no tax if nothing is paid", indebted(73).balance(101), 100 + 90 - 2 * 15);
    }

    private static void otherIncomeTaxes() {
        int[][] wagesAndTaxes = {{1, 0}, {2, 1}, {3, 1}, {4, 2}, {98, 49}, {99, 49}};
        for (int[] pair : wagesAndTaxes) {
            Hundredward town = Towns.peopled(Checks.laid("hf"), 100);
            Checks.due("a tax of 50", town.vote('i', 50), true);
            town.leave(0);
            Checks.due("half of " + pair[0], earned(town, pair[0]), pair[0] - pair[1]);
        }
        Hundredward free = Towns.peopled(Checks.laid("hf"), 100);
        free.found(1, 40, 1);
        free.pass(1);
        Checks.due("a tax of 0", free.vote('i', 0), true);
        Checks.due("no entry of it", Towns.day(free), "10>100:40 100>0:1 10>1:5");
        Checks.due("a tax of 1 needs another vote", free.vote('i', 1), false);
    }

    /** The factory makes 19 a day, and nobody has the 99 that the shop asks. */
    private static void stockOfShops() {
        Checks.terms("7. Freight: each shop with a worker who worked today buys one piece after the other, as long as its stock",
                "is less than 20 and it can pay,");
        Hundredward town = Checks.laid(".h...", "hfsh.", "wrh..");
        int[] skills = {3, 3, 0, 1};
        for (int skill : skills) {
            town.arrive(skill, 90);
        }
        town.found(6, 2, 1);
        town.found(7, 1, 99);
        town.pass(1);
        Checks.due("all 19", town.stockOf(1), 19);
        Checks.due("none is left", town.stockOf(0), 0);
        town.pass(1);
        Checks.due("one more", town.stockOf(1), 20);
        Checks.due("the others are left", town.stockOf(0), 18);
        town.pass(1);
        Checks.due("no more", town.stockOf(1), 20);
        Checks.due("37 are left", town.stockOf(0), 37);
        Checks.due("isBalanced", town.isBalanced(), true);
    }

    /** A shop with 99 after its wage of 1, and a factory that makes four pieces. */
    private static void shopsThatCanPay() {
        int[][] pricesAndPieces = {{99, 1}, {98, 1}, {50, 1}, {49, 2}, {34, 2}, {33, 3}, {32, 3}, {25, 3}, {24, 4}, {1, 4}};
        for (int[] pair : pricesAndPieces) {
            Hundredward town = Checks.laid("hsfh");
            town.arrive(0, 50);
            town.arrive(3, 40);
            town.found(1, 1, 99);
            town.found(2, 1, pair[0]);
            town.pass(1);
            Checks.due("what is left at " + pair[0], town.stockOf(1), 4 - pair[1]);
            Checks.due("what the factory has", town.balance(11), 100 - 1 + pair[0] * pair[1] - 5);
        }
        Hundredward less = Checks.laid("hsfh");
        less.arrive(0, 50);
        less.arrive(3, 40);
        less.found(1, 2, 99);
        less.found(2, 1, 99);
        less.pass(1);
        Checks.due("98 are less than 99", less.stockOf(1), 4);
    }

    /** What the shop pays on the first day, with two factories that make four pieces each. */
    private static String freight(int price, int otherPrice) {
        Hundredward town = Towns.skilled(Checks.laid(".h.h.", ".fsf.", "..h.."), 3, 3, 3);
        town.found(6, 1, price);
        town.found(8, 1, otherPrice);
        town.found(7, 1, 99);
        StringBuilder text = new StringBuilder();
        for (String entry : Towns.day(town).split(" ")) {
            text.append(entry.matches("12>1[01]:.*") ? entry.substring(3, 5) : "");
        }
        return text.toString();
    }

    private static void cheapestFactory() {
        Checks.terms("each from the cheapest factory, of several the first one, that has stock and to which its plot has a way.");
        Checks.due("the first one is cheaper", freight(4, 5), "1010101011111111");
        Checks.due("as cheap", freight(5, 5), "1010101011111111");
        Checks.due("the second one is cheaper", freight(6, 5), "1111111110101010");
        Checks.due("the second one alone can be paid", freight(99, 20), "11111111");
        Checks.due("four of the first, no more can be paid", freight(20, 99), "10101010");
        Checks.due("only the cheapest one that has stock is asked", freight(20, 21), "10101010");
        Checks.due("19 are left for it", freight(20, 19), "1111111110");
    }

    private static void factoriesByWay() {
        for (int height = 3; height <= 4; height++) {
            Hundredward town = Towns.skilled(Checks.laid("hfsh.", "..r..", ".hf.."), 3, 3, 3);
            town.setHeight(7, height);
            town.setRiver(4);
            town.found(1, 1, 9);
            town.found(12, 1, 1);
            town.found(2, 1, 99);
            town.pass(1);
            Checks.due("from the neighbour, over a road of height " + height, town.stockOf(0), 0);
            Checks.due("from the cheaper one", town.stockOf(1), height == 4 ? 0 : 4);
            Checks.due("in the shop", town.stockOf(2), (height == 4 ? 8 : 4) - 1);
        }
    }

    private static void shopsWithoutWork() {
        for (int height = 3; height <= 4; height++) {
            Hundredward town = Towns.skilled(Towns.peopled(Checks.laid("hrsfh"), 300), 3);
            town.found(2, 1, 99);
            town.found(3, 1, 1);
            town.pass(1);
            int before = town.stockOf(0);
            Checks.due("four less one that is sold", before, 3);
            town.setHeight(1, height);
            town.setRiver(4);
            town.pass(1);
            Checks.due("the worker has its firm", town.firmOf(0), 0);
            Checks.due("but works over a road of height " + height, town.costOf(0), height == 4 ? 1 : -1);
            Checks.due("without it the shop buys nothing", town.stockOf(0), height == 4 ? 3 + 4 - 1 : 3);
        }
        Hundredward none = Towns.skilled(Checks.laid(".sfh"), 3);
        none.found(1, 1, 1);
        none.found(2, 2, 1);
        none.pass(1);
        Checks.due("a shop without a worker", none.stockOf(0), 0);
        Checks.due("buys none of four", none.stockOf(1), 4);
    }

    private static void shopOfAnUnpaidWorker() {
        Checks.terms("A worker who worked and has no firm any more, as it was not paid, was the shop's worker for this day all",
                "the same.");
        Hundredward town = Towns.skilled(Checks.laid("hsfh"), 3, 3);
        town.found(1, 99, 10);
        town.found(2, 1, 1);
        town.pass(1);
        Checks.due("one piece was bought and sold", town.stockOf(0), 0);
        Checks.due("10 less 5 of interest", town.balance(10), 5);
        Towns.bank(town, 0);
        String day = Towns.day(town);
        Checks.due("the worker is not paid", Towns.has(day, "10>100:99"), false);
        Checks.due("it has no firm", town.firmOf(0), -1);
        Checks.due("the shop buys five, and sells one", town.stockOf(0), 4);
        Checks.due("to that worker", Towns.has(day, "100>10:10"), true);
        Checks.due("whose hunger is 0", town.hungerOf(0), 0);
    }

    /** Shops at 6 and 8 for the households 0 and 1, and the household 2 at 12, who works in the factory between. */
    private static Hundredward twoShops(int piecePrice, int price, int otherPrice, int wage) {
        Hundredward town = Checks.laid(".....", "hsfsh", ".rhr.");
        town.arrive(0, 300);
        town.arrive(0, 60);
        town.arrive(3, 50);
        town.found(6, 1, price);
        town.found(8, 1, otherPrice);
        town.found(7, wage, piecePrice);
        return town;
    }

    private static void cheapestShop() {
        Checks.terms("8. Shopping: each household with a home buys one piece in the cheapest shop, of several the first one,",
                "that has stock and a worker who worked today, and to which its home has a way, if it can pay the price;");
        int[][] prices = {{9, 10, 10}, {10, 10, 10}, {11, 10, 11}};
        for (int[] row : prices) {
            Hundredward town = twoShops(40, row[0], row[1], 1);
            String day = Towns.day(town);
            Checks.due("the first one's own shop", Towns.has(day, "100>10:" + row[0]), true);
            Checks.due("the second one's own shop", Towns.has(day, "101>11:" + row[1]), true);
            int price = row[2] == 10 ? row[0] : row[1];
            Checks.due(row[0] + " and " + row[1], Towns.has(day, "102>" + row[2] + ":" + price), true);
            Checks.due("one piece each", town.stockOf(0) + town.stockOf(1), 1);
        }
        Hundredward idle = twoShops(40, 10, 50, 1);
        idle.pass(1);
        Checks.due("the first shop has nothing left", idle.stockOf(0), 0);
        Checks.due("the other one has", idle.stockOf(1), 1);
        idle.leave(1);
        idle.setPay(1, 1, 1);
        idle.pass(1);
        Checks.due("but it sells nothing without a worker", idle.stockOf(1), 1);
        Checks.due("so that one is hungry", idle.hungerOf(2), 1);
    }

    /** The shop's worker comes over a road, the customer lives beside the shop. */
    private static void shopsWithWorkersAway() {
        for (int height = 3; height <= 4; height++) {
            Hundredward town = Towns.skilled(Towns.peopled(Checks.laid("hrsfh", "..h.."), 300), 3);
            town.arrive(0, 90);
            town.found(2, 1, 10);
            town.found(3, 1, 1);
            town.pass(1);
            Checks.due("the customer buys on the first day", town.hungerOf(2), 0);
            Checks.due("pieces are left", town.stockOf(0), 2);
            town.setHeight(1, height);
            town.setRiver(4);
            town.pass(1);
            Checks.due("the worker has its firm", town.firmOf(0), 0);
            Checks.due("the customer with a road of height " + height, town.hungerOf(2), height == 4 ? 0 : 1);
        }
    }

    private static void shopsWithStock() {
        Hundredward town = twoShops(60, 10, 90, 99);
        String day = Towns.day(town);
        Checks.due("the first one takes the only piece for 10", Towns.has(day, "100>10:10"), true);
        Checks.due("the second one has not 90", town.hungerOf(1), 1);
        Checks.due("the third one has, as it was paid", Towns.has(day, "102>11:90"), true);
        Checks.due("nothing is left", town.stockOf(0) + town.stockOf(1), 0);
    }

    private static void shopsByWay() {
        for (int height = 3; height <= 4; height++) {
            Hundredward town = twoShops(40, 9, 10, 1);
            town.setHeight(11, height);
            town.setRiver(4);
            Checks.due("over a road of height " + height, Towns.has(Towns.day(town), "102>10:9"), height == 4);
            Checks.due("it has its piece from one or the other", town.hungerOf(2), 0);
        }
        Hundredward none = twoShops(40, 9, 10, 1);
        none.takeDown(11);
        none.takeDown(13);
        none.pass(1);
        Checks.due("without a way to any", none.hungerOf(2), 1);
        Hundredward homeless = Towns.skilled(Checks.laid("hsfh"), 0, 3, 0);
        homeless.found(1, 1, 1);
        homeless.found(2, 1, 1);
        homeless.pass(1);
        Checks.due("without a home", homeless.hungerOf(2), 1);
        Checks.due("of four pieces one is sold", homeless.stockOf(0), 3);
    }

    private static void customersThatCanPay() {
        for (int price = 19; price <= 21; price++) {
            Hundredward town = Checks.laid("hsfh.", ".h...");
            town.arrive(0, 300);
            town.arrive(3, 200);
            town.arrive(0, 20);
            town.found(1, 1, price);
            town.found(2, 2, 1);
            String day = Towns.day(town);
            Checks.due("the customer has no firm", town.firmOf(2), -1);
            Checks.due("20 for " + price, Towns.has(day, "102>10:" + price), price <= 20);
            Checks.due("hunger at " + price, town.hungerOf(2), price <= 20 ? 0 : 1);
            Checks.due("one that is not sold", town.stockOf(0), price <= 20 ? 2 : 3);
        }
    }

    /** A shop with one customer, who has enough; answers what of the price goes on to the treasury. */
    private static int salesTaxOf(Hundredward town, int price) {
        int first = town.arrive(0, 300);
        town.arrive(3, 100);
        town.found(1, 1, price);
        town.found(2, 1, 1);
        String day = Towns.day(town);
        Checks.due("the price is paid", Towns.has(day, (100 + first) + ">10:" + price), true);
        int tax = 0;
        for (String entry : day.split(" ")) {
            tax += entry.startsWith("10>0:") ? Integer.parseInt(entry.substring(5)) : 0;
        }
        Checks.due("the shop has the rest", town.balance(10), 100 - 1 - 4 + price - tax - 5);
        return tax;
    }

    private static void salesTax() {
        Checks.terms("of the price, the sales tax, a percentage rounded down, 5 at first, goes on from the shop to the treasury.");
        int[][] pricesAndTaxes = {{1, 0}, {19, 0}, {20, 1}, {21, 1}, {39, 1}, {40, 2}, {99, 4}};
        for (int[] pair : pricesAndTaxes) {
            Checks.due("the tax of " + pair[0], salesTaxOf(Checks.laid("hsfh"), pair[0]), pair[1]);
        }
    }

    private static void otherSalesTaxes() {
        int[][] pricesAndTaxes = {{1, 0}, {2, 1}, {3, 1}, {4, 2}, {98, 49}, {99, 49}};
        for (int[] pair : pricesAndTaxes) {
            Hundredward town = Towns.peopled(Checks.laid("hsfh"), 50);
            Checks.due("a tax of 50", town.vote('s', 50), true);
            town.leave(0);
            Checks.due("half of " + pair[0], salesTaxOf(town, pair[0]), pair[1]);
        }
        Hundredward free = Towns.peopled(Checks.laid("hsfh"), 49);
        Checks.due("a tax of 0", free.vote('s', 0), true);
        free.leave(0);
        Checks.due("nothing of 99", salesTaxOf(free, 99), 0);
    }

    /** The customer cannot pay 99 for so many days, and then pays 1. */
    private static void hunger() {
        Checks.terms("If it bought, its hunger is 0 then, otherwise 1 more; a household without a home has 1 more, too.");
        for (int days = 0; days <= 3; days++) {
            Hundredward town = Checks.laid("hsfh");
            town.arrive(0, 80);
            town.arrive(3, 60);
            town.arrive(0, 0);
            town.found(1, 1, 99);
            town.found(2, 1, 1);
            for (int day = 1; day <= days; day++) {
                town.pass(1);
                Checks.due("with a home on day " + day, town.hungerOf(0), day);
                Checks.due("without a way on day " + day, town.hungerOf(1), day);
                Checks.due("without a home on day " + day, town.hungerOf(2), day);
            }
            town.setPay(0, 1, 1);
            town.pass(1);
            Checks.due("it bought after " + days, town.hungerOf(0), 0);
            town.pass(1);
            Checks.due("and once more", town.hungerOf(0), 0);
        }
    }

    private static void hungerOfFour() {
        Checks.terms("With a hunger of 4 it leaves the town at once.");
        Hundredward town = Towns.peopled(Checks.laid("hf"), 100, 50);
        town.found(1, 10, 1);
        town.pass(3);
        Checks.due("with 3 the first one is there", town.hungerOf(0), 3);
        Checks.due("with 3 the second one is there", town.hungerOf(1), 3);
        int first = town.balance(100) + 9;
        Checks.due("it works, and leaves before its rent", Towns.day(town),
                "10>100:10 100>0:1 100>-1:" + first + " 101>-1:50 10>1:5");
        Checks.due("nobody is there", town.households(), 0);
        Checks.noElement("the first one is gone", () -> town.hungerOf(0));
        Checks.noElement("the second one is gone", () -> town.hungerOf(1));
        Checks.noElement("its home is free", () -> town.rentOf(0));
        Checks.due("its job is free", town.workersOf(0), 0);
        Checks.due("the name is that of the day before", town.nameOf(0), 2);
        Checks.due("it made one a day, the last one on that day", town.stockOf(0), 4);
        town.pass(1);
        Checks.due("it is not there again", town.households(), 0);
    }
}

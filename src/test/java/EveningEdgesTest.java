/** What Terms say of the steps 9 to 12 of a day, each sentence at its boundary and on both sides of it. */
public final class EveningEdgesTest {
    public static void main(String[] args) {
        rents();
        rentsOfNothing();
        interestOfFirms();
        interestRoundedUp();
        firmsThatCannot();
        interestOfBonds();
        townsThatCannot();
        theTownFails();
        theTownFailsAgain();
        repaying();
        repayingTheLast();
        names();
        namesWithoutHunger();
        namesWithinRange();
        lowestNames();
        Checks.finish();
    }

    /** A rent of 5, and the days on which it is paid. */
    private static void rents() {
        Checks.terms("9. Rent: each household with a home pays its rent to the treasury;");
        int[][] moneyAndDays = {{14, 2}, {15, 3}, {16, 3}};
        for (int[] pair : moneyAndDays) {
            Hundredward town = Towns.peopled(Checks.laid("h"), pair[0], 0);
            int treasury = town.balance(0);
            town.pass(1);
            Checks.due("the rent", town.rentOf(0), 5);
            town.pass(1);
            int left = pair[0] - 10;
            Checks.due("after two days", town.balance(100), left);
            String day = Towns.day(town);
            Checks.due("5 of " + left, Towns.has(day, "100>0:5"), left >= 5);
            Checks.due("the home with " + left, town.homeOf(0), left >= 5 ? 0 : -1);
            Checks.due("what is left", town.balance(100), left >= 5 ? left - 5 : left);
            Checks.due("what the treasury has", town.balance(0), treasury + 5 * pair[1]);
        }
    }

    private static void rentsOfNothing() {
        Checks.terms("if it cannot, it has no home any more, and the name of the plot is 1 less.");
        Hundredward town = Towns.peopled(Checks.laid("h"), 0);
        town.pass(1);
        Checks.due("no home", town.homeOf(0), -1);
        Checks.due("the name is 1 less, and not another time in step 12", town.nameOf(0), 4);
        Checks.noElement("no rent", () -> town.rentOf(0));
        Hundredward one = Towns.peopled(Checks.laid("h"), 1);
        one.pass(1);
        Checks.due("1 is a rent of 1", one.homeOf(0), 0);
        Checks.due("the name without water", one.nameOf(0), 4);
        Hundredward low = Checks.laid("h");
        for (int i = 0; i < 7; i++) {
            Towns.peopled(low, 0).pass(1);
            Checks.due("one after another cannot pay", low.nameOf(0), Math.max(0, 4 - i));
            low.leave(i);
        }
        Hundredward served = Towns.peopled(Checks.laid("hw"), 0);
        served.pass(1);
        Checks.due("water does not help one that lost it", served.nameOf(0), 4);
    }

    /** After a day of credit 100 the factory has 56, and is paid 30 by the shop on the next day. */
    private static Hundredward withWage(int wage) {
        Hundredward town = Towns.skilled(Checks.laid("hsfh"), 0, 3);
        town.found(1, 1, 1);
        town.found(2, 99, 15);
        town.pass(1);
        Checks.due("the factory's money", town.balance(11), 56);
        Checks.due("the shop's money", town.balance(10), 35);
        town.setPay(1, wage, 15);
        return town;
    }

    private static void interestOfFirms() {
        Checks.terms("10. Interest: each firm with credit pays a twentieth of it, rounded up, to the bank;");
        int[][] wageCreditInterest = {{56, 100, 5}, {57, 101, 6}, {75, 119, 6}, {76, 120, 6}, {77, 121, 7}, {96, 140, 7},
            {97, 141, 8}};
        for (int[] row : wageCreditInterest) {
            Hundredward town = withWage(row[0]);
            String day = Towns.day(town);
            Checks.due("the credit", town.creditOf(1), row[1]);
            Checks.due("a twentieth of " + row[1], Towns.has(day, "11>1:" + row[2]), true);
            Checks.due("what is left", town.balance(11), 30 - row[2]);
            Checks.due("the credit is not less by that", town.creditOf(0), 100);
        }
    }

    /** Interest and repaying of a shop with 10 less credit on each day. */
    private static void interestRoundedUp() {
        int[][] creditAndInterest = {{93, 5}, {83, 5}, {73, 4}, {63, 4}, {53, 3}, {43, 3}, {33, 2}, {23, 2}, {13, 1}, {3, 1}};
        for (int days = 0; days < creditAndInterest.length; days++) {
            int[] pair = creditAndInterest[days];
            Hundredward town = richShopAfter(days);
            Checks.due("the credit", town.creditOf(0), pair[0]);
            Checks.due("a twentieth of " + pair[0], Towns.has(Towns.day(town), "10>1:" + pair[1]), true);
        }
        Hundredward town = richShopAfter(creditAndInterest.length);
        Checks.due("no credit", town.creditOf(0), 0);
        Checks.due("no interest", Towns.day(town).contains("10>1:"), false);
        Hundredward twenty = richShop(0);
        twenty.pass(7);
        Checks.due("20", twenty.creditOf(0), 20);
        Checks.due("a twentieth of 20", Towns.has(Towns.day(twenty), "10>1:1"), true);
    }

    private static Hundredward richShopAfter(int days) {
        Hundredward town = richShop(3);
        for (int i = 0; i < days; i++) {
            town.pass(1);
        }
        return town;
    }

    private static void firmsThatCannot() {
        Checks.terms("if it cannot, it fails.");
        for (int wage = 94; wage <= 96; wage++) {
            Hundredward town = Towns.peopled(Checks.laid("hf"), 100);
            town.found(1, wage, 1);
            int bank = town.balance(1);
            String day = Towns.day(town);
            if (wage <= 95) {
                Checks.due("it pays 5 of " + (100 - wage), Towns.has(day, "10>1:5"), true);
                Checks.due("what is left", town.balance(10), 95 - wage);
                Checks.due("it has its worker", town.workersOf(0), 1);
                Checks.due("the bank", town.balance(1), bank + 5);
            } else {
                Checks.noElement("4 are less than 5", () -> town.workersOf(0));
                Checks.due("it has nothing", town.balance(10), 0);
                Checks.due("the bank has it", town.balance(1), bank + 4);
                Checks.due("its worker has no firm", town.firmOf(0), -1);
            }
        }
    }

    private static void interestOfBonds() {
        Checks.terms("Then the treasury pays a twentieth of the bonds, rounded up, to the bank;");
        int[][] bondsAndInterest = {{1, 1}, {19, 1}, {20, 1}, {21, 2}, {39, 2}, {40, 2}, {41, 3}, {980, 49}, {981, 50}, {999, 50}};
        for (int[] pair : bondsAndInterest) {
            Hundredward town = new Hundredward();
            town.borrow(pair[0]);
            Checks.due("a twentieth of " + pair[0], Towns.day(town), "0>1:" + pair[1]);
            Checks.due("the bonds are as they were", town.bonds(), pair[0]);
            Checks.due("again", Towns.day(town), "0>1:" + pair[1]);
        }
        Hundredward after = Checks.laid("s");
        after.found(0, 1, 1);
        after.borrow(5);
        Checks.due("after the firms", Towns.day(after), "10>1:5 0>1:1");
    }

    /** 500 and the bonds, less 22 roads, are what is left: 18 to 22. */
    private static void townsThatCannot() {
        Checks.terms("if it cannot, the town fails:");
        int[][] bondsMoneyInterest = {{398, 18, 20}, {399, 19, 20}, {400, 20, 20}, {401, 21, 21}, {402, 22, 21}};
        for (int[] row : bondsMoneyInterest) {
            Hundredward town = new Hundredward();
            town.borrow(row[0]);
            Towns.treasury(town, row[1]);
            Checks.due("the bonds", town.bonds(), row[0]);
            String day = Towns.day(town);
            boolean can = row[1] >= row[2];
            Checks.due(row[1] + " for " + row[2], day, can ? "0>1:" + row[2] : "");
            Checks.due("the treasury then", town.balance(0), can ? row[1] - row[2] : row[1]);
            Checks.due("failures", town.failures(), can ? 0 : 1);
            Checks.due("bonds", town.bonds(), can ? row[0] : 0);
            Checks.due("law i", town.law('i'), can ? 10 : 20);
        }
        Hundredward nothing = Towns.treasury(new Hundredward(), 20);
        Checks.due("without bonds", nothing.failures(), 0);
        nothing.pass(5);
        Checks.due("it cannot fail", nothing.failures(), 0);
    }

    private static void theTownFails() {
        Checks.terms("its bonds are gone, all waterworks are taken down, the greatest rent is 50, to which rents are cut, and both",
                "taxes are 20.");
        Hundredward town = Checks.laid("whrsf", "....w");
        town.build(20, 'w');
        town.setHeight(20, 0);
        town.setRiver(1);
        town.borrow(999);
        town.borrow(900);
        town.build(23, 'w');
        for (int i = 0; i < 3; i++) {
            town.arrive(0, i == 0 ? 999 : 490);
        }
        Checks.due("votes", town.vote('i', 49) && town.vote('s', 48) && town.vote('r', 54), true);
        town.pass(1);
        Checks.due("the rent", town.rentOf(1), 54);
        town.setTolerance(4);
        Towns.spend(town, 40);
        town.pass(1);
        Checks.due("failures", town.failures(), 1);
        Checks.due("bonds", town.bonds(), 0);
        for (int plot : new int[] {0, 9, 20, 23}) {
            Checks.due("waterworks at " + plot, town.builtOn(plot), '.');
        }
        for (int plot = 1; plot < 5; plot++) {
            Checks.due("another building at " + plot, town.builtOn(plot), ".hrsf".charAt(plot));
        }
        Checks.due("law r", town.law('r'), 50);
        Checks.due("the rent is cut", town.rentOf(1), 50);
        Checks.due("law i", town.law('i'), 20);
        Checks.due("law s", town.law('s'), 20);
        Checks.due("law t", town.law('t'), 4);
        Checks.due("the day had water", town.hadWater(1), true);
        town.pass(1);
        Checks.due("the next one has none", town.hadWater(1), false);
        Checks.due("it fails once", town.failures(), 1);
    }

    private static void theTownFailsAgain() {
        Hundredward town = Towns.peopled(Checks.laid("h"), 999);
        town.pass(1);
        Checks.due("a lower rent", town.vote('r', 7), true);
        for (int time = 1; time <= 2; time++) {
            town.borrow(999);
            Towns.spend(town, 40);
            town.pass(1);
            Checks.due("failures", town.failures(), time);
            Checks.due("law r is more then", town.law('r'), 50);
            Checks.due("law i", town.law('i'), 20);
        }
        Checks.due("no rent is more by that", town.rentOf(0), 1);
        Hundredward taxes = Towns.peopled(new Hundredward(), 100);
        Checks.due("taxes of more than 20", taxes.vote('i', 30) && taxes.vote('s', 30), true);
        taxes.borrow(999);
        Towns.spend(taxes, 40);
        taxes.pass(1);
        Checks.due("are 20 then", taxes.law('i') + taxes.law('s'), 40);
    }

    /** A shop with two customers at 57, less 2 of tax each, and three pieces at 1. */
    private static void repaying() {
        Checks.terms("11. Repaying: each firm with credit and more than 200 pays 10 of it back to the bank,");
        for (int wage = 1; wage <= 3; wage++) {
            Hundredward town = Checks.laid("hsfh", ".h...");
            town.arrive(0, 100);
            town.arrive(2, 100);
            town.arrive(0, 100);
            town.found(1, wage, 57);
            town.found(2, 1, 1);
            int bank = town.balance(1);
            String day = Towns.day(town);
            int money = 202 - wage;
            Checks.due("with " + money, Towns.has(day, "10>1:10"), money > 200);
            Checks.due("the money", town.balance(10), money > 200 ? money - 10 : money);
            Checks.due("the credit", town.creditOf(0), money > 200 ? 90 : 100);
            Checks.due("the bank with two interests", town.balance(1), bank + 10 + (money > 200 ? 10 : 0));
            Checks.due("the factory has less", town.creditOf(1), 100);
        }
    }

    /** On the third day the shop has 10 less than a credit of 100 and more, and sells so much that it pays 10 a day. */
    private static Hundredward richShop(int wanting) {
        Hundredward town = Checks.laid(".rrr.", "hsfh.", ".h...");
        town.arrive(0, 999);
        town.arrive(3, 999);
        town.arrive(0, 999);
        town.found(6, 1, 1);
        town.found(7, 2, 24);
        town.pass(1);
        Checks.due("lower rents", town.vote('r', 1), true);
        Checks.due("the shop's money", town.balance(10), 1);
        Checks.due("its stock", town.stockOf(0), 1);
        town.setPay(0, 1 + wanting, 99);
        town.pass(1);
        Checks.due("its credit", town.creditOf(0), 100 + wanting);
        town.setPay(0, 1, 99);
        town.setPay(1, 2, 1);
        town.pass(1);
        Checks.due("its first repaying", town.creditOf(0), 90 + wanting);
        town.setPay(0, 1, 30);
        return town;
    }

    private static void repayingTheLast() {
        Checks.terms("or all, if that is less.");
        for (int wanting : new int[] {0, 1, 9}) {
            Hundredward town = richShop(wanting);
            for (int credit = 80 + wanting; credit >= 0; credit -= 10) {
                town.pass(1);
                Checks.due("10 less", town.creditOf(0), credit);
                Checks.due("it is rich", town.balance(10) > 200, true);
            }
            String day = Towns.day(town);
            if (wanting > 0) {
                Checks.due("all of " + wanting, Towns.has(day, "10>1:" + wanting), true);
                Checks.due("not 10", Towns.has(day, "10>1:10"), false);
            } else {
                Checks.due("nothing of nothing", day.contains("10>1:"), false);
            }
            Checks.due("no credit", town.creditOf(0), 0);
            Checks.due("no more", Towns.day(town).contains("10>1:"), false);
            Checks.due("nor less than none", town.creditOf(0), 0);
            Checks.due("the firm goes on", town.workersOf(0), 1);
        }
    }

    /** A home at 0 with a shop beside, and with water if asked for; one piece is there for 1, or for 99. */
    private static Hundredward fed(boolean water, int price, int money) {
        Hundredward town = Checks.laid("hsfh", water ? "w...." : ".....");
        town.arrive(0, money);
        town.arrive(3, 80);
        town.found(1, 1, price);
        town.found(2, 1, 1);
        return town;
    }

    private static void names() {
        Checks.terms("12. Names: the name of each plot with a home that somebody has is 1 more, if it has water and the household",
                "no hunger, otherwise 1 less.");
        Hundredward both = fed(true, 1, 90);
        both.pass(1);
        Checks.due("water and no hunger", both.nameOf(0), 6);
        Hundredward hungry = fed(true, 99, 90);
        hungry.pass(1);
        Checks.due("water and a hunger of 1", hungry.nameOf(0), 4);
        Hundredward dry = fed(false, 1, 90);
        dry.pass(1);
        Checks.due("no water, no hunger", dry.nameOf(0), 4);
        Hundredward neither = fed(false, 99, 90);
        neither.pass(1);
        Checks.due("neither", neither.nameOf(0), 4);
        Hundredward nobody = Checks.laid("hw");
        nobody.pass(3);
        Checks.due("a home that nobody has", nobody.nameOf(0), 5);
        Checks.due("though it has water", nobody.hadWater(0), true);
        Checks.due("waterworks", nobody.nameOf(1), 5);
    }

    private static void namesWithoutHunger() {
        Hundredward town = fed(true, 99, 90);
        town.pass(2);
        Checks.due("a hunger of 2", town.nameOf(0), 3);
        town.setPay(0, 1, 1);
        town.pass(1);
        Checks.due("no hunger any more", town.nameOf(0), 4);
        town.takeDown(5);
        town.pass(1);
        Checks.due("no water any more", town.nameOf(0), 3);
        town.build(5, 'w');
        town.setHeight(5, 4);
        town.setRiver(4);
        town.pass(1);
        Checks.due("waterworks at the level", town.nameOf(0), 4);
        town.setRiver(5);
        town.pass(1);
        Checks.due("waterworks below the level", town.nameOf(0), 3);
    }

    private static void namesWithinRange() {
        Checks.terms("A name is always from 0 to 9.");
        Hundredward town = fed(true, 1, 900);
        for (int name = 6; name <= 9; name++) {
            town.pass(1);
            Checks.due("one more", town.nameOf(0), name);
        }
        town.pass(2);
        Checks.due("9 is the most", town.nameOf(0), 9);
        town.takeDown(5);
        town.pass(1);
        Checks.due("one less than 9", town.nameOf(0), 8);
        town.setRiver(6);
        town.pass(1);
        Checks.due("three less by a flood", town.nameOf(0), 5);
    }

    private static void lowestNames() {
        Hundredward town = Checks.laid("h");
        for (int i = 0; i < 7; i++) {
            Towns.peopled(town, 900).pass(1);
            Checks.due("somebody has it", town.homeOf(i), 0);
            Checks.due("one less without water, but not below 0", town.nameOf(0), Math.max(0, 4 - i));
            town.leave(i);
        }
    }
}

/** What Terms say of households, each sentence at its boundary and on both sides of it. */
public final class HouseholdEdgesTest {
    public static void main(String[] args) {
        twelve();
        skillAndMoney();
        atFirst();
        takingMoney();
        rentAfterLeaving();
        rentAfterFlood();
        rentAfterHunger();
        rentAfterDebt();
        firmAfterFlood();
        firmAfterDebt();
        firmAfterLeaving();
        Checks.finish();
    }

    private static void twelve() {
        Checks.terms("At most 12 come,");
        Hundredward town = new Hundredward();
        for (int i = 0; i < 12; i++) {
            Checks.due("household " + i, town.arrive(0, 10), i);
            Checks.due("so many", town.households(), i + 1);
        }
        Checks.badState("the thirteenth", () -> town.arrive(0, 10));
        Checks.due("nobody came", town.households(), 12);
        Checks.due("nor any money", town.money(), 2620L);
        town.leave(0);
        Checks.badState("nor after one left", () -> town.arrive(0, 10));
        town.pass(4);
        Checks.due("all starved", town.households(), 0);
        Checks.badState("nor after all did", () -> town.arrive(0, 10));
        Hundredward gone = Towns.peopled(new Hundredward(), 1, 1, 1, 1, 1, 1, 1, 1, 1, 1, 1);
        gone.leave(10);
        Checks.due("the twelfth after the eleventh left", gone.arrive(0, 1), 11);
    }

    private static void skillAndMoney() {
        Checks.terms("with a skill, 0 to 3, and money that is made.");
        Hundredward town = new Hundredward();
        for (int skill = -1; skill <= 4; skill++) {
            int of = skill;
            if (skill >= 0 && skill <= 3) {
                Checks.due("skill " + skill, town.arrive(skill, 0), skill);
            } else {
                Checks.badArgument("skill " + skill, () -> town.arrive(of, 0));
            }
        }
        int next = 4;
        for (int money : new int[] {0, 1, 998, 999}) {
            long before = town.money();
            Checks.due("money " + money, town.arrive(0, money), next);
            Checks.due("it has it", town.balance(100 + next), money);
            Checks.due("it is made", town.money(), before + money);
            next++;
        }
        for (int money : new int[] {-1, 1000, Integer.MIN_VALUE, Integer.MAX_VALUE}) {
            Checks.badArgument("money " + money, () -> town.arrive(0, money));
        }
    }

    private static void atFirst() {
        Checks.terms("They have no home, no firm and no hunger at first.");
        Hundredward town = Checks.laid("hs");
        town.found(1, 1, 1);
        town.arrive(0, 100);
        Checks.due("no home", town.homeOf(0), -1);
        Checks.due("no firm", town.firmOf(0), -1);
        Checks.due("no hunger", town.hungerOf(0), 0);
        town.pass(1);
        Checks.due("a home on the first day", town.homeOf(0), 0);
        Checks.due("a firm", town.firmOf(0), 0);
        Checks.due("hunger", town.hungerOf(0), 1);
        town.leave(0);
        town.arrive(0, 100);
        Checks.due("the next one has none, though one is free", town.homeOf(1), -1);
        Checks.due("nor that one's firm", town.firmOf(1), -1);
        Checks.due("nor its hunger", town.hungerOf(1), 0);
        Checks.due("nor its way", town.costOf(1), -1);
    }

    private static void takingMoney() {
        Checks.terms("One that leaves takes its money out of the town.");
        for (int money : new int[] {0, 1, 999}) {
            Hundredward town = Towns.peopled(new Hundredward(), money, 5);
            Checks.due("it takes " + money, town.leave(0), money);
            Checks.due("its account is empty", town.balance(100), 0);
            Checks.due("the other one's is not", town.balance(101), 5);
            Checks.due("the town has less", town.money(), 2505L);
            Checks.due("one is left", town.households(), 1);
            Checks.noElement("it is gone", () -> town.leave(0));
        }
        Hundredward starved = Towns.peopled(new Hundredward(), 30);
        starved.pass(3);
        Checks.due("before it starves", starved.money(), 2530L);
        starved.pass(1);
        Checks.due("it took its money along", starved.money(), 2500L);
    }

    /** Two homes, the first one at a rent of 25, the second one at 1. */
    private static Hundredward twoHomes() {
        Hundredward town = Towns.peopled(Checks.laid("h.h"), 300, 200);
        town.pass(1);
        Checks.due("the first rent", town.rentOf(0), 25);
        Checks.due("the mean", town.meanRent(), 13.0);
        return town;
    }

    private static void noRent(Hundredward town) {
        Checks.noElement("no rent at 0", () -> town.rentOf(0));
        Checks.due("the mean of the other one", town.meanRent(), 1.0);
    }

    private static void rentAfterLeaving() {
        Checks.terms("A home that has no household any more, by whatever way, has no rent;");
        Hundredward town = twoHomes();
        town.leave(0);
        noRent(town);
        town.leave(1);
        Checks.throwing("no mean", ArithmeticException.class, town::meanRent);
        town.takeDown(0);
        Checks.noElement("no rent without a home", () -> town.rentOf(0));
    }

    private static void rentAfterFlood() {
        Hundredward town = twoHomes();
        town.setHeight(0, 4);
        town.setRiver(4);
        town.pass(1);
        Checks.due("a home at the level has its rent", town.rentOf(0), 25);
        town.setRiver(5);
        Checks.due("and until the day comes", town.rentOf(0), 25);
        town.pass(1);
        noRent(town);
    }

    private static void rentAfterHunger() {
        Hundredward town = Towns.peopled(Checks.laid("h.h"), 300);
        town.pass(2);
        Towns.peopled(town, 200).pass(1);
        Checks.due("a rent of 1 with a hunger of 3", town.rentOf(0), 1);
        Checks.due("the other one's", town.rentOf(2), 1);
        town.pass(1);
        noRent(town);
        Checks.due("the other one has its home", town.homeOf(1), 2);
    }

    private static void rentAfterDebt() {
        Hundredward town = Towns.peopled(Checks.laid("h.h"), 39, 20, 12);
        town.leave(2);
        town.pass(1);
        Checks.due("the second bid", town.rentOf(0), 7);
        town.pass(3);
        Checks.due("39 are five rents of 7, but it starved on the fourth day", town.households(), 0);
        Hundredward poor = Towns.peopled(Checks.laid("h.h"), 21, 20);
        poor.pass(3);
        Checks.due("21 are three rents of 7", poor.rentOf(0), 7);
        Checks.due("it has nothing", poor.balance(100), 0);
        Hundredward poorer = Towns.peopled(Checks.laid("h.h"), 20, 20);
        poorer.pass(2);
        Checks.due("20 are two rents of 7", poorer.rentOf(0), 7);
        poorer.pass(1);
        noRent(poorer);
        Checks.due("but not three", poorer.homeOf(0), -1);
    }

    private static void firmAfterFlood() {
        Checks.terms("a household that has no home any more loses its firm at once.");
        Hundredward town = Towns.peopled(Checks.laid("hf"), 100);
        town.found(1, 1, 1);
        town.setHeight(0, 3);
        town.setRiver(3);
        town.pass(1);
        Checks.due("a home at the level and a firm", town.firmOf(0), 0);
        town.setRiver(4);
        town.pass(1);
        Checks.due("no firm", town.firmOf(0), -1);
        Checks.due("no worker", town.workersOf(0), 0);
        Checks.due("it did not work on that day", town.costOf(0), -1);
        Checks.due("the share", town.workingShare(), 0f);
    }

    private static void firmAfterDebt() {
        Hundredward town = Towns.peopled(Checks.laid("hf"), 9, 9);
        town.found(1, 1, 1);
        town.pass(1);
        Checks.due("9 and 1 less 5", town.balance(100), 5);
        Checks.due("its firm", town.firmOf(0), 0);
        town.pass(1);
        Checks.due("5 and 1 less 5", town.balance(100), 1);
        town.pass(1);
        Checks.due("1 and 1 are less than 5", town.homeOf(0), -1);
        Checks.due("no firm", town.firmOf(0), -1);
        Checks.due("no worker", town.workersOf(0), 0);
        Checks.due("it worked on that day", town.costOf(0), 0);
    }

    private static void firmAfterLeaving() {
        Hundredward town = Towns.peopled(Checks.laid("hfh"), 100, 100);
        town.found(1, 1, 1);
        town.pass(1);
        Checks.due("two workers", town.workersOf(0), 2);
        town.leave(0);
        Checks.due("one worker", town.workersOf(0), 1);
        town.pass(3);
        Checks.due("the other one starved", town.households(), 0);
        Checks.due("no worker", town.workersOf(0), 0);
    }
}

import java.util.NoSuchElementException;

/** The promises 15 to 25, each row of them by itself: its range, what is returned, and what throws. */
public final class PeopleRowsTest {
    private static final Class<IllegalArgumentException> BAD = IllegalArgumentException.class;
    private static final Class<IndexOutOfBoundsException> OUT = IndexOutOfBoundsException.class;

    public static void main(String[] args) {
        arrive();
        leave();
        found();
        setPay();
        homeOf();
        firmOf();
        hungerOf();
        costOf();
        stockOf();
        creditOf();
        workersOf();
        Checks.finish();
    }

    private static Hundredward shop() {
        return Checks.laid("s");
    }

    private static Hundredward firm() {
        Hundredward town = shop();
        town.found(0, 1, 1);
        return town;
    }

    private static Hundredward twelve() {
        return Towns.peopled(new Hundredward(), 0, 1, 2, 3, 4, 5, 6, 7, 8, 9, 10, 11);
    }

    /** The household 0 works, 1 lives without a firm, 2 has no home, 3 left, and so did 4, as it starved. */
    private static Hundredward five() {
        Hundredward town = Towns.peopled(Checks.laid("hsfrh"), 300, 200, 100, 90);
        town.found(1, 1, 99);
        town.leave(3);
        town.pass(1);
        return town;
    }

    private static Hundredward starved() {
        Hundredward town = five();
        town.arrive(0, 0);
        town.leave(0);
        town.leave(1);
        town.leave(2);
        town.pass(4);
        return town;
    }

    /** There are 0 to 4; of these 3 and 4 are not there any more. */
    private static void households(Ranges.OfNumber call) {
        Ranges.beyond(0, 4, OUT, PeopleRowsTest::starved, call);
        Ranges.beyond(0, 3, OUT, PeopleRowsTest::five, call);
        Ranges.beyond(0, 11, OUT, PeopleRowsTest::twelve, call);
        Hundredward none = new Hundredward();
        Checks.throwing("nobody came", OUT, () -> call.answer(none, 0));
        for (int i = 0; i < 12; i++) {
            Checks.due("household " + i, call.answer(twelve(), i) != null, true);
        }
    }

    private static void gone(Ranges.OfNumber call) {
        Hundredward town = five();
        Checks.throwing("one that left", NoSuchElementException.class, () -> call.answer(town, 3));
        Checks.due("one before it", call.answer(town, 2) != null, true);
        Hundredward later = starved();
        for (int i = 0; i < 5; i++) {
            int who = i;
            Checks.throwing("one that is gone: " + i, NoSuchElementException.class, () -> call.answer(later, who));
        }
    }

    private static void arrive() {
        Checks.promise(15, "`skill`: the skill, 0 to 3");
        Ranges.within(0, 3, BAD, Hundredward::new, (town, skill) -> town.arrive(skill, 5));
        Checks.promise(15, "`money`: its money, 0 to 999");
        Ranges.within(0, 999, BAD, Hundredward::new, (town, money) -> town.arrive(0, money));
        Checks.promise(15, "Returns its number, from 0.");
        Hundredward town = new Hundredward();
        for (int i = 0; i < 12; i++) {
            Checks.due("number " + i, town.arrive(i % 4, i), i);
            if (i % 3 == 0) {
                town.leave(i);
            }
        }
        Checks.promise(15, "Throws `IllegalArgumentException` if a number is out of range");
        Checks.badArgument("skill 4, and 12 came", () -> town.arrive(4, 0));
        Checks.badArgument("money 1000, and 12 came", () -> town.arrive(0, 1000));
        Checks.badArgument("both", () -> new Hundredward().arrive(-1, -1));
        Checks.promise(15, "Throws `IllegalStateException` if 12 came");
        Checks.badState("12 came, some left", () -> town.arrive(0, 0));
        Checks.badState("12 came", () -> twelve().arrive(3, 999));
    }

    private static void leave() {
        Checks.promise(16, "`household`: the household");
        households((town, who) -> town.leave(who));
        Checks.promise(16, "Returns the money that it takes along.");
        for (int i = 0; i < 12; i++) {
            Checks.due("money of " + i, twelve().leave(i), i);
        }
        Checks.due("what is left of 300", five().leave(0), 300 + 1 - 25);
        Checks.promise(16, "Throws `IndexOutOfBoundsException` if there never was such a household");
        Checks.outOfBounds("before it came", () -> new Hundredward().leave(0));
        Checks.outOfBounds("12", () -> twelve().leave(12));
        Checks.promise(16, "Throws `NoSuchElementException` if it is not there any more");
        gone((town, who) -> town.leave(who));
    }

    private static void found() {
        Checks.promise(17, "`plot`: the plot, 0 to 24");
        Hundredward last = new Hundredward();
        last.build(24, 's');
        Checks.due("found at 24", last.found(24, 1, 1), 0);
        Ranges.plotsThat(IllegalStateException.class, Hundredward::new, (town, plot) -> town.found(plot, 1, 1));
        Checks.promise(17, "`wage`: the wage, 1 to 99");
        Ranges.within(1, 99, BAD, PeopleRowsTest::shop, (town, wage) -> town.found(0, wage, 1));
        Checks.promise(17, "`price`: the price of a piece, 1 to 99");
        Ranges.within(1, 99, BAD, PeopleRowsTest::shop, (town, price) -> town.found(0, 1, price));
        Checks.promise(17, "Returns its number, from 0.");
        Hundredward town = Checks.laid("ffffs", "ss");
        for (int i = 0; i < 6; i++) {
            Checks.due("number " + i, town.found(5 - i, 1, 1), i);
        }
        Checks.promise(17, "Throws `IndexOutOfBoundsException` if there is no such plot");
        Checks.outOfBounds("-1", () -> town.found(-1, 1, 1));
        Checks.outOfBounds("25, and wage and price", () -> town.found(25, 0, 100));
        Checks.promise(17, "Throws `IllegalArgumentException` if a number is out of range");
        Checks.badArgument("wage, and 6 were founded", () -> town.found(6, 0, 1));
        Checks.badArgument("price on nothing", () -> town.found(24, 1, 100));
        Checks.promise(17, "Throws `IllegalStateException` if it is no shop and no factory, has a firm, 6 were founded,"
                + " or the bank has less than 100");
        Checks.badState("6 were founded", () -> town.found(6, 1, 1));
        for (char kind : "rhw".toCharArray()) {
            Checks.badState("on " + kind, () -> Checks.laid("" + kind).found(0, 1, 1));
        }
        Checks.badState("on nothing", () -> new Hundredward().found(0, 1, 1));
        Checks.badState("has a firm", () -> firm().found(0, 1, 1));
        Checks.badState("the bank has 99", () -> Towns.bank(shop(), 99).found(0, 1, 1));
        Checks.due("the bank has 100", Towns.bank(shop(), 100).found(0, 1, 1), 0);
    }

    /** The firm 0 works, the firm 1 failed. */
    private static Hundredward failed() {
        Hundredward town = Towns.peopled(Checks.laid("hf.sh"), 300, 200);
        town.found(1, 2, 1);
        town.found(3, 96, 1);
        town.pass(1);
        return town;
    }

    private static void firms(Ranges.OfNumber call) {
        Ranges.beyond(0, 0, OUT, PeopleRowsTest::firm, call);
        Ranges.beyond(0, 1, OUT, PeopleRowsTest::failed, call);
        Hundredward none = shop();
        Checks.throwing("none was founded", OUT, () -> call.answer(none, 0));
        Hundredward six = Checks.laid("ffffs", "s");
        for (int i = 0; i < 6; i++) {
            six.found(i, 1, 1);
        }
        for (int i = 0; i < 6; i++) {
            Checks.due("firm " + i, call.answer(six, i) != null, true);
        }
        Checks.throwing("there is no seventh", OUT, () -> call.answer(six, 6));
    }

    private static void closed(Ranges.OfNumber call) {
        Hundredward town = failed();
        Checks.throwing("one that failed", NoSuchElementException.class, () -> call.answer(town, 1));
        Checks.due("the one before it", call.answer(town, 0) != null, true);
        town.found(3, 1, 1);
        Checks.throwing("with another one in its place", NoSuchElementException.class, () -> call.answer(town, 1));
        Checks.due("the one in its place", call.answer(town, 2) != null, true);
    }

    private static void setPay() {
        Checks.promise(18, "`firm`: the firm");
        firms((town, firm) -> town.setPay(firm, 1, 1));
        Checks.promise(18, "`wage`: the wage, 1 to 99");
        Ranges.within(1, 99, BAD, PeopleRowsTest::firm, (town, wage) -> town.setPay(0, wage, 1));
        Checks.promise(18, "`price`: the price, 1 to 99");
        Ranges.within(1, 99, BAD, PeopleRowsTest::firm, (town, price) -> town.setPay(0, 1, price));
        Checks.promise(18, "Returns the wage before the call.");
        Hundredward town = firm();
        int before = 1;
        for (int wage : new int[] {99, 50, 50, 1}) {
            Checks.due("before " + wage, town.setPay(0, wage, 100 - wage), before);
            before = wage;
        }
        Checks.promise(18, "Throws `IndexOutOfBoundsException` if there never was such a firm");
        Checks.outOfBounds("1, and wage and price", () -> town.setPay(1, 0, 0));
        Checks.outOfBounds("-1", () -> town.setPay(-1, 1, 1));
        Checks.promise(18, "Throws `NoSuchElementException` if it is not there any more");
        closed((of, firm) -> of.setPay(firm, 1, 1));
        Hundredward failed = failed();
        Checks.noElement("and wage and price", () -> failed.setPay(1, 0, 100));
        Checks.promise(18, "Throws `IllegalArgumentException` if a number is out of range");
        Checks.badArgument("wage 0", () -> town.setPay(0, 0, 1));
        Checks.badArgument("wage 100", () -> town.setPay(0, 100, 1));
        Checks.badArgument("price 0", () -> town.setPay(0, 1, 0));
        Checks.badArgument("price 100", () -> town.setPay(0, 1, 100));
        Checks.due("nothing came of those", town.setPay(0, 2, 2), 1);
    }

    private static void homeOf() {
        Checks.promise(19, "`household`: the household");
        households(Hundredward::homeOf);
        Checks.promise(19, "Returns the plot, -1 for none.");
        Hundredward town = five();
        Checks.due("the plot 0", town.homeOf(0), 0);
        Checks.due("another plot", town.homeOf(1), 4);
        Checks.due("none", town.homeOf(2), -1);
        Hundredward last = new Hundredward();
        last.build(24, 'h');
        Towns.peopled(last, 100).pass(1);
        Checks.due("the last plot", last.homeOf(0), 24);
        Checks.promise(19, "Throws `IndexOutOfBoundsException` if there never was such a household");
        Checks.outOfBounds("-1", () -> town.homeOf(-1));
        Checks.outOfBounds("4", () -> town.homeOf(4));
        Checks.promise(19, "Throws `NoSuchElementException` if it is not there any more");
        gone(Hundredward::homeOf);
    }

    private static void firmOf() {
        Checks.promise(20, "`household`: the household");
        households(Hundredward::firmOf);
        Checks.promise(20, "Returns the firm, -1 for none.");
        Hundredward town = five();
        Checks.due("the firm 0", town.firmOf(0), 0);
        Checks.due("none, with a home", town.firmOf(1), -1);
        Checks.due("none, without a home", town.firmOf(2), -1);
        Hundredward second = Towns.peopled(Checks.laid("fsh"), 100);
        second.found(0, 1, 1);
        second.found(1, 1, 1);
        second.pass(1);
        Checks.due("the firm 1", second.firmOf(0), 1);
        Checks.promise(20, "Throws `IndexOutOfBoundsException` if there never was such a household");
        Checks.outOfBounds("-1", () -> town.firmOf(-1));
        Checks.outOfBounds("4", () -> town.firmOf(4));
        Checks.promise(20, "Throws `NoSuchElementException` if it is not there any more");
        gone(Hundredward::firmOf);
    }

    private static void hungerOf() {
        Checks.promise(21, "`household`: the household");
        households(Hundredward::hungerOf);
        Checks.promise(21, "Returns the hunger.");
        Hundredward town = five();
        for (int day = 1; day <= 3; day++) {
            Checks.due("day " + day, town.hungerOf(1), day);
            Checks.due("without a home", town.hungerOf(2), day);
            town.pass(1);
        }
        Checks.due("at first", twelve().hungerOf(11), 0);
        Checks.promise(21, "Throws `IndexOutOfBoundsException` if there never was such a household");
        Checks.outOfBounds("-1", () -> town.hungerOf(-1));
        Checks.outOfBounds("4", () -> town.hungerOf(4));
        Checks.promise(21, "Throws `NoSuchElementException` if it is not there any more");
        Checks.noElement("with a hunger of 4", () -> town.hungerOf(1));
        gone(Hundredward::hungerOf);
    }

    private static void costOf() {
        Checks.promise(22, "`household`: the household");
        households(Hundredward::costOf);
        Checks.promise(22, "Returns the cost, -1 if it was no worker.");
        Hundredward town = Towns.peopled(Checks.laid("hrfh"), 300, 200, 100);
        Checks.due("before a day", town.costOf(0), -1);
        town.found(2, 1, 1);
        Checks.due("before a day with a firm", town.costOf(0), -1);
        town.pass(1);
        Checks.due("over a road", town.costOf(0), 1);
        Checks.due("over none", town.costOf(1), 0);
        Checks.due("no worker", town.costOf(2), -1);
        town.takeDown(1);
        Checks.due("the last day's", town.costOf(0), 1);
        town.pass(1);
        Checks.due("without a way", town.costOf(0), -1);
        Checks.promise(22, "Throws `IndexOutOfBoundsException` if there never was such a household");
        Checks.outOfBounds("-1", () -> town.costOf(-1));
        Checks.outOfBounds("3", () -> town.costOf(3));
        Checks.promise(22, "Throws `NoSuchElementException` if it is not there any more");
        gone(Hundredward::costOf);
    }

    private static void stockOf() {
        Checks.promise(23, "`firm`: the firm");
        firms(Hundredward::stockOf);
        Checks.promise(23, "Returns the stock.");
        Hundredward town = Towns.skilled(Checks.laid("hfs"), 3);
        town.found(1, 1, 1);
        town.found(2, 1, 1);
        Checks.due("none at first", town.stockOf(0), 0);
        town.pass(1);
        Checks.due("half of 8", town.stockOf(0), 4);
        Checks.due("none in the shop", town.stockOf(1), 0);
        town.pass(1);
        Checks.due("and again", town.stockOf(0), 8);
        Checks.promise(23, "Throws `IndexOutOfBoundsException` if there never was such a firm");
        Checks.outOfBounds("-1", () -> town.stockOf(-1));
        Checks.outOfBounds("2", () -> town.stockOf(2));
        Checks.promise(23, "Throws `NoSuchElementException` if it is not there any more");
        closed(Hundredward::stockOf);
    }

    private static void creditOf() {
        Checks.promise(24, "`firm`: the firm");
        firms(Hundredward::creditOf);
        Checks.promise(24, "Returns the credit.");
        Hundredward town = Towns.peopled(Checks.laid("hsfh", "..h.."), 300, 200, 100);
        town.arrive(3, 90);
        town.leave(1);
        town.found(1, 1, 1);
        town.found(2, 51, 90);
        Checks.due("100 at first", town.creditOf(0), 100);
        town.pass(1);
        Checks.due("2 for wages", town.creditOf(1), 102);
        Checks.due("none for the other one", town.creditOf(0), 100);
        Checks.promise(24, "Throws `IndexOutOfBoundsException` if there never was such a firm");
        Checks.outOfBounds("-1", () -> town.creditOf(-1));
        Checks.outOfBounds("2", () -> town.creditOf(2));
        Checks.promise(24, "Throws `NoSuchElementException` if it is not there any more");
        closed(Hundredward::creditOf);
    }

    private static void workersOf() {
        Checks.promise(25, "`firm`: the firm");
        firms(Hundredward::workersOf);
        Checks.promise(25, "Returns how many.");
        Hundredward town = Towns.peopled(Checks.laid(".h...", "hfhs.", ".h.h."), 500, 400, 300, 200);
        town.found(6, 2, 1);
        town.found(8, 1, 1);
        Checks.due("none at first", town.workersOf(0), 0);
        town.pass(1);
        Checks.due("three", town.workersOf(0), 3);
        Checks.due("none, as none has a way", town.workersOf(1), 0);
        town.leave(0);
        Checks.due("two", town.workersOf(0), 2);
        Checks.promise(25, "Throws `IndexOutOfBoundsException` if there never was such a firm");
        Checks.outOfBounds("-1", () -> town.workersOf(-1));
        Checks.outOfBounds("2", () -> town.workersOf(2));
        Checks.promise(25, "Throws `NoSuchElementException` if it is not there any more");
        closed(Hundredward::workersOf);
    }
}

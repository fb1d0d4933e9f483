/** Promises 1 to 6 and 9 to 14: a new object, the ground, the river, permits, and ways. */
public final class LandTest {
    public static void main(String[] args) {
        newTown();
        heights();
        river();
        buildingErrors();
        buildingMoney();
        objections();
        precedents();
        refusalsBelowZero();
        roadObjections();
        takingDown();
        tolerance();
        questionsOnPlots();
        ways();
        waysAndFloods();
        waysBetweenRoads();
        Checks.finish();
    }

    private static void newTown() {
        Hundredward town = new Hundredward();
        for (int i = 0; i < 25; i++) {
            Checks.due("new builtOn " + i, town.builtOn(i), '.');
            Checks.due("new nameOf " + i, town.nameOf(i), 5);
            Checks.due("new load " + i, town.load(i), 0);
            Checks.due("new hadWater " + i, town.hadWater(i), false);
            int plot = i;
            Checks.noElement("new rentOf " + i, () -> town.rentOf(plot));
            Checks.due("new setHeight " + i, town.setHeight(i, 5), 5);
        }
        Checks.due("new law i", town.law('i'), 10);
        Checks.due("new law s", town.law('s'), 5);
        Checks.due("new law r", town.law('r'), 50);
        Checks.due("new law t", town.law('t'), 1);
        Checks.due("new entries", town.entries(), 2);
        Checks.due("new treasury", town.balance(0), 500);
        Checks.due("new bank", town.balance(1), 2000);
        Checks.due("new builders", town.balance(2), 0);
        Checks.due("new money", town.money(), 2500L);
        Checks.due("new bonds", town.bonds(), 0);
        Checks.due("new failures", town.failures(), 0);
        Checks.due("new households", town.households(), 0);
        Checks.due("new isBalanced", town.isBalanced(), true);
        Checks.due("first day", town.pass(1), 1);
    }

    private static void heights() {
        Hundredward town = new Hundredward();
        Checks.due("setHeight 0 9", town.setHeight(0, 9), 5);
        Checks.due("setHeight 0 0", town.setHeight(0, 0), 9);
        Checks.due("setHeight 24 1", town.setHeight(24, 1), 5);
        Checks.outOfBounds("setHeight -1", () -> town.setHeight(-1, 5));
        Checks.outOfBounds("setHeight 25 first", () -> town.setHeight(25, 10));
        Checks.outOfBounds("setHeight far", () -> town.setHeight(Integer.MIN_VALUE, 5));
        Checks.badArgument("setHeight to 10", () -> town.setHeight(0, 10));
        Checks.badArgument("setHeight to -1", () -> town.setHeight(0, -1));
        Checks.due("setHeight changed nothing", town.setHeight(0, 5), 0);
    }

    private static void river() {
        Hundredward town = new Hundredward();
        town.setHeight(3, 0);
        town.setHeight(4, 4);
        town.setHeight(5, 9);
        Checks.due("setRiver 1", town.setRiver(1), 1);
        Checks.due("setRiver 4", town.setRiver(4), 1);
        Checks.due("setRiver 5", town.setRiver(5), 2);
        Checks.due("setRiver 6", town.setRiver(6), 24);
        Checks.due("setRiver 9", town.setRiver(9), 24);
        Checks.due("setRiver 10", town.setRiver(10), 25);
        Checks.badArgument("setRiver 11", () -> town.setRiver(11));
        Checks.badArgument("setRiver -1", () -> town.setRiver(-1));
        Checks.noElement("the river is as it was", () -> town.way(5, 5));
        Checks.due("setRiver 0", town.setRiver(0), 0);
    }

    private static void buildingErrors() {
        Hundredward town = Checks.laid("r");
        Checks.outOfBounds("build 25 first", () -> town.build(25, 'x'));
        Checks.outOfBounds("build -1", () -> town.build(-1, 'r'));
        Checks.badArgument("build x before state", () -> town.build(0, 'x'));
        Checks.badArgument("build .", () -> town.build(1, '.'));
        Checks.badArgument("build of char 0", () -> town.build(1, (char) 0));
        Checks.badArgument("build of char 65535", () -> town.build(1, (char) 65535));
        Checks.badArgument("build R", () -> town.build(1, 'R'));
        Checks.badState("build on a road", () -> town.build(0, 'r'));
        Checks.due("the road stays", town.builtOn(0), 'r');
        Checks.due("nothing paid for refusals by exception", town.balance(0), 460);
    }

    private static void buildingMoney() {
        Hundredward town = new Hundredward();
        for (int i = 0; i < 12; i++) {
            Checks.due("build " + i, town.build(i, 'r'), true);
        }
        Checks.due("treasury after twelve", town.balance(0), 20);
        Checks.due("builders after twelve", town.balance(2), 480);
        Checks.badState("the treasury has less than 40", () -> town.build(12, 'r'));
        town.borrow(19);
        Checks.badState("the treasury has 39", () -> town.build(12, 'r'));
        town.borrow(1);
        Checks.due("the treasury has 40", town.build(12, 'r'), true);
        Checks.due("treasury then", town.balance(0), 0);
        int last = town.entries() - 1;
        Checks.due("from the treasury", town.entry(last, 0), 0);
        Checks.due("to the builders", town.entry(last, 1), 2);
        Checks.due("it costs 40", town.entry(last, 2), 40);
    }

    /** Homes at 6, 8 and 12 round the plot 7, somebody in each. */
    private static Hundredward threeNeighbours() {
        Hundredward town = Checks.laid(".....", ".h.h.", "..h..");
        for (int i = 0; i < 3; i++) {
            town.arrive(0, 100);
        }
        town.pass(1);
        return town;
    }

    private static void objections() {
        Hundredward town = threeNeighbours();
        Checks.due("f over three objections", town.build(7, 'f'), false);
        Checks.due("a refusal builds nothing", town.builtOn(7), '.');
        int treasury = town.balance(0);
        Checks.due("w over three objections", town.build(7, 'w'), false);
        Checks.due("a refusal costs nothing", town.balance(0), treasury);
        Checks.due("nobody minds a shop", town.build(7, 's'), true);
        Checks.due("a permit costs 40", town.balance(0), treasury - 40);
        Hundredward again = threeNeighbours();
        again.setTolerance(3);
        Checks.due("three are bearable with 3", again.build(7, 'w'), true);
        Hundredward more = threeNeighbours();
        more.setTolerance(2);
        Checks.due("three are not bearable with 2", more.build(7, 'f'), false);
        Checks.due("nobody minds a home", more.build(7, 'h'), true);
    }

    private static void precedents() {
        Hundredward town = threeNeighbours();
        Checks.due("f over one, 1 is bearable", town.build(9, 'f'), true);
        Checks.due("f over one, 2 are bearable", town.build(5, 'f'), true);
        Checks.due("f over three, 3 are bearable", town.build(7, 'f'), true);
        Checks.due("the precedents are not those of w: one is bearable", town.build(3, 'w'), true);
        town.takeDown(7);
        Checks.due("w over three, 2 are bearable", town.build(7, 'w'), false);
        Checks.due("f over none makes no precedent", town.build(24, 'f'), true);
        town.setTolerance(0);
        Checks.due("f over three with 3 precedents", town.build(7, 'f'), true);
        town.takeDown(7);
        town.takeDown(9);
        town.takeDown(24);
        Checks.due("takings-down are no precedents", town.build(7, 'f'), true);
    }

    private static void refusalsBelowZero() {
        Hundredward town = threeNeighbours();
        town.setTolerance(0);
        Checks.due("w over one, 0 are bearable", town.build(9, 'w'), false);
        Checks.due("w over none, -1 is bearable", town.build(24, 'w'), false);
        town.setTolerance(1);
        Checks.due("w over none, the refusal without objections counted, too", town.build(24, 'w'), false);
        town.setTolerance(3);
        Checks.due("w over none, 0 are bearable", town.build(24, 'w'), true);
        Checks.due("w over none made no precedent", town.build(9, 'w'), false);
    }

    private static void roadObjections() {
        Hundredward town = Checks.laid("hfh");
        town.arrive(0, 100);
        town.arrive(0, 100);
        town.found(1, 1, 1);
        town.setTolerance(0);
        Checks.due("nobody is in the homes yet", town.build(5, 'r'), true);
        town.takeDown(5);
        town.pass(1);
        Checks.due("a worker minds a road", town.build(5, 'r'), false);
        town.setTolerance(2);
        Checks.due("2 less 1 refusal bear one", town.build(5, 'r'), true);
        town.takeDown(5);
        Hundredward idle = Checks.laid("h");
        idle.arrive(0, 100);
        idle.setTolerance(0);
        idle.pass(1);
        Checks.due("one without a firm minds no road", idle.build(1, 'r'), true);
        Checks.due("the plot below is a neighbour, too", idle.build(5, 'f'), false);
        Hundredward edge = Checks.laid("....h");
        edge.arrive(0, 100);
        edge.setTolerance(0);
        edge.pass(1);
        Checks.due("the next row's first plot is no neighbour", edge.build(5, 'f'), true);
    }

    private static void takingDown() {
        Hundredward town = Checks.laid("hfsrw");
        town.found(1, 1, 1);
        town.found(2, 1, 1);
        town.arrive(0, 100);
        Checks.outOfBounds("takeDown -1", () -> town.takeDown(-1));
        Checks.outOfBounds("takeDown 25", () -> town.takeDown(25));
        Checks.badState("takeDown of nothing", () -> town.takeDown(9));
        Checks.badState("takeDown of a factory with a firm", () -> town.takeDown(1));
        Checks.badState("takeDown of a shop with a firm", () -> town.takeDown(2));
        town.pass(1);
        Checks.badState("takeDown of a home that somebody has", () -> town.takeDown(0));
        Checks.due("the home stays", town.builtOn(0), 'h');
        int treasury = town.balance(0);
        Checks.due("takeDown of a road", town.takeDown(3), 'r');
        Checks.due("takeDown of waterworks", town.takeDown(4), 'w');
        town.leave(0);
        Checks.due("takeDown of a free home", town.takeDown(0), 'h');
        Checks.due("it is gone", town.builtOn(0), '.');
        Checks.due("it is for nothing", town.balance(0), treasury);
        Checks.badState("takeDown once more", () -> town.takeDown(0));
    }

    private static void tolerance() {
        Hundredward town = new Hundredward();
        Checks.due("setTolerance 4", town.setTolerance(4), 1);
        Checks.due("setTolerance 0", town.setTolerance(0), 4);
        Checks.badArgument("setTolerance 5", () -> town.setTolerance(5));
        Checks.badArgument("setTolerance -1", () -> town.setTolerance(-1));
        Checks.due("the tolerance is law", town.law('t'), 0);
    }

    private static void questionsOnPlots() {
        Hundredward town = Checks.laid("h");
        for (int plot : new int[] {-1, 25, Integer.MAX_VALUE, Integer.MIN_VALUE}) {
            Checks.outOfBounds("builtOn " + plot, () -> town.builtOn(plot));
            Checks.outOfBounds("nameOf " + plot, () -> town.nameOf(plot));
            Checks.outOfBounds("rentOf " + plot, () -> town.rentOf(plot));
            Checks.outOfBounds("load " + plot, () -> town.load(plot));
            Checks.outOfBounds("hadWater " + plot, () -> town.hadWater(plot));
            Checks.outOfBounds("way from " + plot, () -> town.way(plot, 0));
            Checks.outOfBounds("way to " + plot, () -> town.way(0, plot));
        }
        Checks.due("builtOn 0", town.builtOn(0), 'h');
        Checks.noElement("rentOf an empty home", () -> town.rentOf(0));
        Checks.noElement("rentOf no home", () -> town.rentOf(1));
        town.arrive(0, 999);
        town.arrive(0, 100);
        town.pass(1);
        Checks.due("rentOf a home", town.rentOf(0), 15);
        Checks.due("nameOf a home without water", town.nameOf(0), 4);
        town.leave(0);
        Checks.noElement("rentOf a home that was left", () -> town.rentOf(0));
    }

    private static void ways() {
        Hundredward town = Checks.laid("hrrrs", "....r", "..rrr");
        Checks.due("a plot has the way to itself", town.way(7, 7), 0);
        Checks.due("neighbours", town.way(0, 5), 0);
        Checks.due("neighbours beside a longer way", town.way(1, 2), 0);
        Checks.due("along the row", town.way(0, 4), 3);
        Checks.due("back", town.way(4, 0), 3);
        Checks.due("to an empty plot", town.way(0, 7), 2);
        Checks.noElement("the end of one row is not beside the next", () -> town.way(0, 20));
        Checks.noElement("over a shop there is no way", () -> town.way(0, 12));
        Checks.noElement("4 and 5 are no neighbours", () -> Checks.laid("....h", "h....").way(4, 5));
        town.takeDown(2);
        Checks.noElement("a road that is gone", () -> town.way(0, 4));
    }

    private static void waysAndFloods() {
        Hundredward town = Checks.laid("hrs", "r.r", "rrr");
        Checks.due("the short way", town.way(0, 2), 1);
        town.setHeight(1, 2);
        town.setRiver(3);
        Checks.due("round a flooded road", town.way(0, 2), 5);
        Checks.noElement("to a flooded plot", () -> town.way(0, 1));
        Checks.noElement("from a flooded plot", () -> town.way(1, 2));
        Checks.noElement("a flooded plot has no way to itself", () -> town.way(1, 1));
        town.setRiver(2);
        Checks.due("a height of the level is dry", town.way(0, 2), 1);
    }

    private static void waysBetweenRoads() {
        Hundredward town = Checks.laid("rrr", "r.r", "rrr");
        Checks.due("roads as both ends do not count", town.way(0, 2), 1);
        Checks.due("round the block", town.way(0, 12), 3);
        Checks.due("into the middle", town.way(6, 12), 1);
        Hundredward line = Checks.laid("rrrrr");
        Checks.due("three between the ends", line.way(0, 4), 3);
        Checks.due("past one end", line.way(1, 4), 2);
    }
}

/** What Terms say of routes and of water, each sentence at its boundary and on both sides of it. */
public final class WayEdgesTest {
    public static void main(String[] args) {
        workers();
        costs();
        costsOfOthers();
        rounds();
        moreRounds();
        fourRounds();
        equalCosts();
        equalCostsOfFewerRoads();
        fewestRoads();
        firstRoads();
        firstFromTheHome();
        anew();
        floodedRoads();
        served();
        servedKinds();
        servedOnce();
        servedInOrder();
        servedByWay();
        Checks.finish();
    }

    /** Asks for the loads of all plots; those that are not told have none. */
    private static void loads(Hundredward town, int... plotsAndLoads) {
        int[] due = new int[25];
        for (int i = 0; i < plotsAndLoads.length; i += 2) {
            due[plotsAndLoads[i]] = plotsAndLoads[i + 1];
        }
        for (int plot = 0; plot < 25; plot++) {
            Checks.due("load of " + plot, town.load(plot), due[plot]);
        }
        Checks.due("isBalanced", town.isBalanced(), true);
    }

    private static void costsOfAll(Hundredward town, int... costs) {
        for (int i = 0; i < costs.length; i++) {
            Checks.due("cost of " + i, town.costOf(i), costs[i]);
        }
    }

    private static void workers() {
        Checks.terms("4. Routes: workers are the households with a home and a firm to whose plot this has a way.");
        Hundredward town = Towns.peopled(Checks.laid("hrf", "...", "h"), 300, 200, 100);
        town.found(2, 1, 1);
        town.pass(1);
        costsOfAll(town, 1, -1, -1);
        Checks.due("one without a way has no firm", town.firmOf(1), -1);
        Checks.due("one without a home has no firm", town.firmOf(2), -1);
        town.setHeight(1, 4);
        town.setRiver(4);
        town.pass(1);
        costsOfAll(town, 1, -1, -1);
        town.setRiver(5);
        Checks.due("the last day's", town.costOf(0), 1);
        town.pass(1);
        Checks.due("a firm to which it has no way any more", town.firmOf(0), 0);
        costsOfAll(town, -1, -1, -1);
        loads(town);
    }

    private static void costs() {
        Checks.terms("The cost of a way for a worker is the sum over its roads of 1 plus how many other workers go there.");
        for (int roads = 0; roads <= 3; roads++) {
            Hundredward town = Towns.peopled(Checks.laid("h" + "rrr".substring(0, roads) + "f"), 100);
            town.found(roads + 1, 1, 1);
            town.pass(1);
            Checks.due("one alone over " + roads, town.costOf(0), roads);
        }
        for (int households = 1; households <= 3; households++) {
            Hundredward town = Checks.laid(".h...", "hrrf.", ".h...");
            town.found(8, 1, 1);
            for (int i = 0; i < households; i++) {
                town.arrive(0, 100);
            }
            town.pass(1);
            for (int i = 0; i < households; i++) {
                Checks.due("one of " + households + " over two roads", town.costOf(i), 2 * households);
            }
            loads(town, 6, households, 7, households);
        }
    }

    private static void costsOfOthers() {
        Hundredward town = Towns.peopled(Checks.laid("h.h..", "rrrf.", "..h.."), 300, 200, 100);
        town.found(8, 1, 1);
        town.pass(1);
        costsOfAll(town, 5, 3, 3);
        loads(town, 5, 1, 6, 1, 7, 3);
        town.leave(1);
        town.pass(1);
        Checks.due("with one other left", town.costOf(0), 4);
        Checks.due("for the other one", town.costOf(2), 2);
    }

    private static void rounds() {
        Checks.terms("At first nobody goes anywhere; then, one after another, and round by round until a whole round changes",
                "nothing, each worker takes the cheapest way, if it has none or this is cheaper than its own;");
        Hundredward town = Towns.peopled(Checks.laid("..h..", "..r..", "..rf.", "..hr."), 100, 200);
        town.found(13, 1, 1);
        town.pass(1);
        Checks.due("the second one above", town.homeOf(1), 2);
        loads(town, 7, 1, 12, 1, 18, 1);
        costsOfAll(town, 1, 2);
        town.leave(1);
        town.pass(1);
        loads(town, 12, 1);
    }

    /** With two rounds the first household would still go over 17. */
    private static void moreRounds() {
        Hundredward town = Towns.large("..hrf", "..hr.", ".hrrh", "..rrf", "..hr.");
        town.found(19, 2, 1);
        town.found(4, 1, 1);
        Towns.peopled(town, 100, 400, 300, 200, 500).pass(1);
        Checks.due("homes of the first and the last", town.homeOf(0) * 100 + town.homeOf(4), 2202);
        Checks.due("three in the first factory", town.workersOf(0), 3);
        loads(town, 23, 1, 18, 3, 12, 2, 17, 1, 13, 2, 8, 1, 3, 2);
        costsOfAll(town, 4, 6, 7, 5, 2);
    }

    /** With three rounds the first household would still go over 17. */
    private static void fourRounds() {
        Hundredward town = Towns.large(".frrh", ".rhrh", ".rrr.", ".frr.", ".rhh.");
        town.found(16, 2, 1);
        town.found(1, 1, 1);
        Towns.peopled(town, 200, 500, 400, 100, 300).pass(1);
        Checks.due("homes of the first and the last", town.homeOf(0) * 100 + town.homeOf(4), 2209);
        Checks.due("three in the first factory", town.workersOf(0), 3);
        loads(town, 21, 1, 3, 2, 8, 2, 13, 2, 12, 2, 17, 1, 6, 2, 11, 2, 18, 1, 2, 1);
        costsOfAll(town, 1, 9, 4, 9, 5);
    }

    /** The second one took 23, as the first one goes over 17; then the third one comes there, too. */
    private static void equalCosts() {
        Hundredward town = Towns.peopled(Checks.laid(".....", ".....", ".....", "hrrh.", ".rfrh"), 300, 200, 100);
        town.found(22, 1, 1);
        town.pass(1);
        Checks.due("a way over 17 would cost the second one 2, too", town.costOf(1), 2);
        loads(town, 16, 1, 17, 1, 23, 2);
        costsOfAll(town, 2, 2, 2);
    }

    /** The third one goes over six roads for 13, though four roads would cost it 13 by now, too. */
    private static void equalCostsOfFewerRoads() {
        Hundredward town = Towns.large("..f.h", "frrrr", "..r.r", ".hrhr", "..rh.");
        town.found(5, 2, 1);
        town.found(2, 1, 1);
        Towns.peopled(town, 300, 100, 200, 400).pass(1);
        Checks.due("the third one's home", town.homeOf(2), 18);
        Checks.due("three in the first factory", town.workersOf(0), 3);
        loads(town, 17, 2, 22, 1, 12, 2, 7, 4, 6, 3, 19, 1, 14, 1, 9, 2, 8, 2);
        costsOfAll(town, 11, 12, 13, 8);
    }

    /** Two go over 12 and 7; for the third one 7 costs as much as 1, 2 and 3. */
    private static void fewestRoads() {
        Checks.terms("of several cheapest ones, one with the fewest roads,");
        Hundredward town = Towns.peopled(Checks.laid(".rrr.", ".hrf.", ".hr..", "..h.."), 200, 100, 300);
        town.found(8, 1, 1);
        town.pass(1);
        Checks.due("the third one's home", town.homeOf(2), 6);
        loads(town, 7, 3, 12, 2);
        costsOfAll(town, 5, 5, 3);
    }

    private static void firstRoads() {
        Checks.terms("of those the first one, if they are compared by their plots from the home on.");
        Hundredward corner = Towns.peopled(Checks.laid("hr", "rf"), 100);
        corner.found(6, 1, 1);
        corner.pass(1);
        loads(corner, 1, 1);
        Hundredward back = Towns.peopled(Checks.laid("fr", "rh"), 100);
        back.found(0, 1, 1);
        back.pass(1);
        loads(back, 1, 1);
        Hundredward block = Towns.peopled(Checks.laid("hrr", "rrr", "rrf"), 100);
        block.found(12, 1, 1);
        block.pass(1);
        loads(block, 1, 1, 2, 1, 7, 1);
        block.takeDown(2);
        block.pass(1);
        loads(block, 1, 1, 6, 1, 7, 1);
        block.takeDown(7);
        block.pass(1);
        loads(block, 1, 1, 6, 1, 11, 1);
        Hundredward sides = Towns.peopled(Checks.laid(".....", "rrr..", "rhr..", "r.r..", "rfr.."), 100);
        sides.found(21, 1, 1);
        sides.pass(1);
        loads(sides, 10, 1, 15, 1, 20, 1);
    }

    /** Both ways have five roads; compared from the factory on, that over 24 would be the first one. */
    private static void firstFromTheHome() {
        Hundredward town = Towns.peopled(Checks.laid(".....", "..frr", ".rr.r", ".r..r", ".rrhr"), 100);
        town.found(7, 1, 1);
        town.pass(1);
        loads(town, 22, 1, 21, 1, 16, 1, 11, 1, 12, 1);
        Checks.due("five roads", town.costOf(0), 5);
    }

    private static void anew() {
        Hundredward town = Towns.peopled(Checks.laid("..h..", "..r..", "..rf.", "..hr."), 100, 200);
        town.found(13, 1, 1);
        town.pass(1);
        loads(town, 7, 1, 12, 1, 18, 1);
        town.build(8, 'r');
        town.pass(1);
        Checks.due("the first one goes over 12 again, as the second one goes over 8", town.load(12), 1);
        loads(town, 7, 1, 8, 1, 12, 1);
    }

    /** The upper way is the shorter one; it is gone over as long as its road is not flooded. */
    private static void floodedRoads() {
        for (int height = 3; height <= 5; height++) {
            Hundredward town = Towns.peopled(Checks.laid("hrf", "r.r", "rrr"), 100);
            town.found(2, 1, 1);
            town.setHeight(1, height);
            town.setRiver(4);
            town.pass(1);
            Checks.due("with a road of height " + height, town.costOf(0), height < 4 ? 5 : 1);
            Checks.due("over it", town.load(1), height < 4 ? 0 : 1);
            Checks.due("round it", town.load(5), height < 4 ? 1 : 0);
            Checks.due("isBalanced", town.isBalanced(), true);
            town.setRiver(0);
            Checks.due("as things were then", town.isBalanced(), true);
        }
    }

    /** Waterworks at 6, with 1, 5 and 7 beside, 10 and 12 over one road, 15, 17 and 21 over two. */
    private static final int[] BY_ROADS = {1, 5, 7, 10, 12, 15, 17, 21};

    private static void served() {
        Checks.terms("5. Water: each waterworks that is not flooded serves up to 6 plots");
        for (int homes = 0; homes <= BY_ROADS.length; homes++) {
            Hundredward town = Checks.laid(".....", ".w...", ".r...", ".r...");
            for (int i = 0; i < homes; i++) {
                town.build(BY_ROADS[i], 'h');
            }
            town.pass(1);
            for (int i = 0; i < BY_ROADS.length; i++) {
                Checks.due("water at " + BY_ROADS[i] + " of " + homes, town.hadWater(BY_ROADS[i]), i < homes && i < 6);
            }
        }
        for (int height = 3; height <= 5; height++) {
            Hundredward town = Checks.laid("wh");
            town.setHeight(0, height);
            town.setRiver(4);
            town.pass(1);
            Checks.due("waterworks of height " + height + " at a level of 4", town.hadWater(1), height >= 4);
        }
    }

    private static void servedKinds() {
        Checks.terms("with homes, shops or factories");
        Hundredward town = Checks.laid(".h...", "swf..", ".r...", "hrw..", ".....");
        town.pass(1);
        for (int plot = 0; plot < 25; plot++) {
            boolean takes = plot == 1 || plot == 5 || plot == 7 || plot == 15;
            Checks.due("water at " + plot, town.hadWater(plot), takes);
        }
        town.takeDown(5);
        Checks.due("the last day's", town.hadWater(5), true);
        town.pass(1);
        Checks.due("nothing is built there", town.hadWater(5), false);
    }

    private static void servedOnce() {
        Checks.terms("to which it has a way and that are not served yet,");
        Hundredward one = Checks.laid(".....", "whhh.", "rrrrh", ".hhh.");
        one.pass(1);
        for (int plot : new int[] {6, 16, 7, 17, 8, 14}) {
            Checks.due("water at " + plot, one.hadWater(plot), true);
        }
        Checks.due("no water for the seventh", one.hadWater(18), false);
        Hundredward two = Towns.large(".....", "whhh.", "rrrrh", "whhh.", ".....");
        two.pass(1);
        for (int plot : new int[] {6, 16, 7, 17, 8, 14, 18}) {
            Checks.due("those that are served already take none of the other six: " + plot, two.hadWater(plot), true);
        }
    }

    private static void servedInOrder() {
        Checks.terms("those with the fewest roads first, of several the lower ones.");
        Hundredward town = Checks.laid("..h..", ".hrh.", ".hrh.", ".hwh.", "..h..");
        town.pass(1);
        for (int plot : new int[] {16, 18, 22}) {
            Checks.due("without a road: " + plot, town.hadWater(plot), true);
        }
        for (int plot : new int[] {11, 13}) {
            Checks.due("over one road: " + plot, town.hadWater(plot), true);
        }
        Checks.due("over two roads, the lowest one", town.hadWater(2), true);
        Checks.due("over two roads, the next one", town.hadWater(6), false);
        Checks.due("over two roads, the last one", town.hadWater(8), false);
        town.takeDown(16);
        town.pass(1);
        Checks.due("one less before: the next one", town.hadWater(6), true);
        Checks.due("but not the last one", town.hadWater(8), false);
        town.takeDown(11);
        town.pass(1);
        Checks.due("two less: the last one, too", town.hadWater(8), true);
    }

    private static void servedByWay() {
        for (int height = 3; height <= 4; height++) {
            Hundredward road = Checks.laid("wrh");
            road.setHeight(1, height);
            road.setRiver(4);
            road.pass(1);
            Checks.due("over a road of height " + height, road.hadWater(2), height == 4);
            Hundredward plot = Checks.laid("wh");
            plot.setHeight(1, height);
            plot.setRiver(4);
            plot.pass(1);
            Checks.due("to a home of height " + height, plot.hadWater(1), height == 4);
        }
        Hundredward gap = Checks.laid("w.h", "h");
        gap.pass(1);
        Checks.due("over no road", gap.hadWater(2), false);
        Checks.due("to a neighbour", gap.hadWater(5), true);
        Hundredward first = new Hundredward();
        first.build(0, 'w');
        first.build(1, 'h');
        Checks.due("not before a day", first.hadWater(1), false);
    }
}

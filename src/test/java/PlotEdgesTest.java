/** What Terms say of plots and of ways, each sentence at its boundary and on both sides of it. */
public final class PlotEdgesTest {
    private static final int[] BEYOND = {-1, 25, Integer.MIN_VALUE, Integer.MAX_VALUE};

    public static void main(String[] args) {
        numbers();
        neighbours();
        heights();
        names();
        kinds();
        floods();
        rowsOfRoads();
        twiceNone();
        noneFlooded();
        neitherOfBoth();
        gaps();
        withoutRoads();
        floodedEnds();
        Checks.finish();
    }

    private static void numbers() {
        Checks.terms("There are the plots 0 to 24, 5 in a row;");
        Hundredward town = new Hundredward();
        for (int plot = 0; plot < 25; plot++) {
            Checks.due("plot " + plot, town.builtOn(plot), '.');
        }
        for (int plot : BEYOND) {
            Checks.outOfBounds("plot " + plot, () -> town.builtOn(plot));
        }
        Checks.due("4 ends the row of 3", town.way(3, 4), 0);
        Checks.noElement("5 begins another row", () -> town.way(4, 5));
        Checks.due("5 is below 0", town.way(0, 5), 0);
    }

    /** In an empty town only neighbours, and a plot itself, have a way. */
    private static void neighbours() {
        Checks.terms("a plot's neighbours are those above, below, left and right of it.");
        int pairs = 0;
        for (int a = 0; a < 25; a++) {
            Hundredward town = new Hundredward();
            for (int b = 0; b < 25; b++) {
                int from = a;
                int to = b;
                int apart = Math.abs(a / 5 - b / 5) + Math.abs(a % 5 - b % 5);
                if (apart > 1) {
                    Checks.noElement(a + " and " + b + " are no neighbours", () -> town.way(from, to));
                } else {
                    Checks.due(a + " and " + b + " are neighbours", town.way(from, to), 0);
                    pairs += apart;
                }
            }
        }
        Checks.due("each row and column has four pairs", pairs, 2 * 10 * 4);
    }

    private static void heights() {
        Checks.terms("A plot has a height, 0 to 9, 5 at first,");
        Hundredward town = new Hundredward();
        for (int i = 0; i < 25; i++) {
            int plot = i;
            Checks.due("first height of " + i, town.setHeight(i, 0), 5);
            Checks.badArgument("height -1 at " + i, () -> town.setHeight(plot, -1));
            Checks.due("height 0 of " + i, town.setHeight(i, 9), 0);
            Checks.badArgument("height 10 at " + i, () -> town.setHeight(plot, 10));
            Checks.due("height 9 of " + i, town.setHeight(i, 1), 9);
            Checks.due("height 1 of " + i, town.setHeight(i, 8), 1);
            Checks.due("height 8 of " + i, town.setHeight(i, 5), 8);
        }
        Checks.badArgument("height far below", () -> town.setHeight(0, Integer.MIN_VALUE));
        Checks.badArgument("height far above", () -> town.setHeight(0, Integer.MAX_VALUE));
        Checks.due("nothing came of those", town.setHeight(0, 5), 5);
    }

    private static void names() {
        Checks.terms("a name among people, 0 to 9, 5 at first,");
        Hundredward town = Checks.laid("hrsfw");
        for (int i = 0; i < 25; i++) {
            Checks.due("first name of " + i, town.nameOf(i), 5);
        }
        town.takeDown(0);
        Checks.due("the name is the plot's, not the building's", town.nameOf(0), 5);
        Hundredward left = Towns.peopled(Checks.laid("h"), 100);
        left.pass(2);
        left.leave(0);
        left.takeDown(0);
        Checks.due("a name that was lost stays so without the home", left.nameOf(0), 3);
        left.build(0, 'r');
        Checks.due("and under another building", left.nameOf(0), 3);
    }

    private static void kinds() {
        Checks.terms("and is built with nothing at first, '.', or with a road 'r', a home 'h', a shop 's', a factory 'f'",
                "or waterworks 'w'.");
        for (int first = 0; first <= Character.MAX_VALUE; first += 256) {
            Hundredward asked = new Hundredward();
            for (int sign = first; sign < first + 256; sign++) {
                char kind = (char) sign;
                if ("rhsfw".indexOf(kind) < 0) {
                    Checks.badArgument("build of " + sign, () -> asked.build(0, kind));
                }
            }
            Checks.due("nothing at first, and after those", asked.builtOn(0), '.');
        }
        Hundredward town = new Hundredward();
        for (char kind : "rhsfw".toCharArray()) {
            Checks.due("build of " + kind, town.build(0, kind), true);
            Checks.due("built", town.builtOn(0), kind);
            Checks.due("taken down", town.takeDown(0), kind);
            Checks.due("nothing again", town.builtOn(0), '.');
        }
    }

    private static void floods() {
        Checks.terms("It is flooded if its height is less than the level of the river, 0 at first.");
        Hundredward first = new Hundredward();
        first.setHeight(0, 0);
        Checks.due("a level of 0 floods not even a height of 0", first.way(0, 1), 0);
        for (int height = 0; height <= 9; height++) {
            for (int level = 0; level <= 10; level++) {
                Hundredward town = new Hundredward();
                town.setHeight(12, height);
                int others = level > 5 ? 24 : 0;
                boolean flooded = level > height;
                Checks.due("height " + height + ", level " + level, town.setRiver(level), others + (flooded ? 1 : 0));
                if (flooded) {
                    Checks.noElement("a flooded plot", () -> town.way(12, 12));
                } else {
                    Checks.due("a dry plot", town.way(12, 12), 0);
                }
            }
        }
    }

    private static void rowsOfRoads() {
        Checks.terms("A way from one plot to another one is a row of roads, none twice, none flooded and neither of both,");
        Hundredward town = Checks.laid("hrrrs");
        Checks.due("three roads", town.way(0, 4), 3);
        Checks.due("two of them", town.way(0, 3), 2);
        Checks.due("one of them", town.way(0, 2), 1);
        Checks.due("none of them", town.way(0, 1), 0);
        for (char other : "hsfw".toCharArray()) {
            town.takeDown(2);
            town.build(2, other);
            Checks.noElement(other + " is no road", () -> town.way(0, 4));
            Checks.due("but a way leads to it", town.way(0, 2), 1);
        }
        town.takeDown(2);
        Checks.noElement("nothing is no road", () -> town.way(0, 4));
        Checks.due("but a way leads there", town.way(0, 2), 1);
    }

    /** A way round a block may pass on either side, and is as long as the shorter one. */
    private static void twiceNone() {
        Hundredward town = Checks.laid("hrrr.", ".r.r.", ".rrrs");
        Checks.due("both sides of the block are as long", town.way(0, 14), 5);
        Checks.due("and back", town.way(14, 0), 5);
        town.takeDown(2);
        Checks.due("below alone", town.way(0, 14), 5);
        town.takeDown(13);
        Checks.noElement("neither", () -> town.way(0, 14));
        Hundredward end = Checks.laid("hr...", ".rrr.");
        Checks.due("nobody turns round in a road without an end", end.way(0, 9), 4);
        Checks.due("the fewest, not all of them", end.way(0, 11), 2);
    }

    private static void noneFlooded() {
        Hundredward town = Checks.laid("hrs");
        town.setHeight(1, 4);
        town.setRiver(4);
        Checks.due("a road at the level", town.way(0, 2), 1);
        town.setHeight(1, 3);
        Checks.noElement("a road below the level", () -> town.way(0, 2));
        town.setRiver(3);
        Checks.due("a level at the road", town.way(0, 2), 1);
    }

    private static void neitherOfBoth() {
        Hundredward line = Checks.laid("rrrrr");
        Checks.due("four ahead, the last of them is the other plot", line.way(0, 4), 3);
        Checks.due("from within", line.way(2, 4), 1);
        Checks.due("a road has the way to itself", line.way(2, 2), 0);
        Checks.due("roads that are neighbours", line.way(2, 3), 0);
        Hundredward cross = Checks.laid(".h...", "hrs..");
        Checks.due("over the road between", cross.way(1, 5), 1);
        Checks.due("to that road itself", cross.way(1, 6), 0);
        Checks.due("from that road itself", cross.way(6, 7), 0);
    }

    private static void gaps() {
        Checks.terms("the first one a neighbour of the one, each a neighbour of the one ahead, the last one a neighbour",
                "of the other;");
        Hundredward town = Checks.laid("..r..", ".....", "hrrrs");
        Checks.due("from a neighbour to a neighbour", town.way(10, 14), 3);
        Checks.noElement("the first one is no neighbour", () -> town.way(5, 14));
        Checks.noElement("the last one is no neighbour", () -> town.way(10, 9));
        Checks.due("above the last one", town.way(10, 8), 3);
        Checks.noElement("a gap between 2 and 12", () -> town.way(10, 1));
        town.build(7, 'r');
        Checks.due("the gap is filled", town.way(10, 1), 4);
        Hundredward corner = Checks.laid("hr...", "..r..");
        Checks.noElement("a corner is no neighbour", () -> corner.way(0, 12));
        corner.build(2, 'r');
        Checks.due("round the corner", corner.way(0, 12), 3);
        Hundredward edge = Checks.laid("..rrr", "rrr..");
        edge.takeDown(7);
        Checks.noElement("the row's end is no neighbour of the next row", () -> edge.way(9, 10));
    }

    private static void withoutRoads() {
        Checks.terms("neighbours have the way without roads alone, and a plot has it to itself.");
        Hundredward town = Checks.laid("hs...", "rr...");
        Checks.due("neighbours beside roads", town.way(0, 1), 0);
        Checks.due("a plot itself", town.way(0, 0), 0);
        Checks.due("an empty plot itself", town.way(24, 24), 0);
        town.found(1, 1, 1);
        Towns.peopled(town, 100).pass(1);
        Checks.due("its way to work costs nothing", town.costOf(0), 0);
        Checks.due("it does not go round", town.load(5) + town.load(6), 0);
        Checks.due("nor does it count on its ends", town.load(0) + town.load(1), 0);
    }

    private static void floodedEnds() {
        Checks.terms("Plots that are flooded have no way.");
        Hundredward town = Checks.laid("hrs");
        town.setHeight(2, 4);
        town.setRiver(4);
        Checks.due("the other end at the level", town.way(0, 2), 1);
        town.setRiver(5);
        Checks.noElement("the other end flooded", () -> town.way(0, 2));
        Checks.noElement("the one end flooded", () -> town.way(2, 0));
        Checks.noElement("nor to a neighbour", () -> town.way(2, 1));
        Checks.noElement("nor from a neighbour", () -> town.way(1, 2));
        Checks.noElement("nor to itself", () -> town.way(2, 2));
        Checks.due("the others have", town.way(0, 1), 0);
    }
}

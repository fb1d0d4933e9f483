/** The promises 1 to 14, each row of them by itself: its range, what is returned, and what throws. */
public final class LandRowsTest {
    private static final Class<IllegalArgumentException> BAD = IllegalArgumentException.class;

    public static void main(String[] args) {
        newTown();
        setHeight();
        setRiver();
        build();
        takeDown();
        setTolerance();
        vote();
        law();
        builtOn();
        nameOf();
        rentOf();
        load();
        hadWater();
        way();
        Checks.finish();
    }

    private static Hundredward empty() {
        return new Hundredward();
    }

    /** A home at 0 with a rent of 15 and without water, a factory at 2 behind a road, where its household works. */
    private static Hundredward settled() {
        Hundredward town = Towns.peopled(Checks.laid("hrf"), 999, 100);
        town.found(2, 1, 1);
        town.pass(1);
        town.leave(1);
        return town;
    }

    private static void newTown() {
        Checks.promise(1, "Creates a town with nothing built, on the day 0.");
        Hundredward town = empty();
        for (int plot = 0; plot < 25; plot++) {
            Checks.due("nothing at " + plot, town.builtOn(plot), '.');
        }
        Checks.due("a day after the day 0", town.pass(1), 1);
        Checks.due("ten days after the day 0", empty().pass(10), 10);
        Hundredward other = empty();
        town.build(0, 'r');
        Checks.due("another town is another one", other.builtOn(0), '.');
    }

    private static void setHeight() {
        Checks.promise(2, "`plot`: the plot, 0 to 24");
        Ranges.plots(LandRowsTest::empty, (town, plot) -> town.setHeight(plot, 5));
        Checks.promise(2, "`height`: the height, 0 to 9");
        Ranges.within(0, 9, BAD, LandRowsTest::empty, (town, height) -> town.setHeight(0, height));
        Checks.promise(2, "Returns the height before the call.");
        Hundredward town = empty();
        Checks.due("before the first call", town.setHeight(7, 9), 5);
        Checks.due("before the second call", town.setHeight(7, 0), 9);
        Checks.due("before the third call", town.setHeight(7, 0), 0);
        Checks.due("of another plot", town.setHeight(8, 0), 5);
        Checks.promise(2, "Throws `IndexOutOfBoundsException` if there is no such plot");
        Checks.outOfBounds("plot -1", () -> town.setHeight(-1, 5));
        Checks.outOfBounds("plot 25", () -> town.setHeight(25, 5));
        Checks.outOfBounds("the height, too, but this is first", () -> town.setHeight(25, 10));
        Checks.promise(2, "Throws `IllegalArgumentException` if it is out of range");
        Checks.badArgument("height -1", () -> town.setHeight(0, -1));
        Checks.badArgument("height 10", () -> town.setHeight(24, 10));
    }

    private static void setRiver() {
        Checks.promise(3, "`level`: the level, 0 to 10");
        Ranges.within(0, 10, BAD, LandRowsTest::empty, (town, level) -> town.setRiver(level));
        Checks.promise(3, "Returns how many plots are flooded then.");
        Hundredward town = empty();
        for (int plot = 0; plot < 10; plot++) {
            town.setHeight(plot, plot);
        }
        for (int level = 0; level <= 10; level++) {
            Checks.due("level " + level, town.setRiver(level), level + (level > 5 ? 15 : 0));
        }
        Checks.due("none", town.setRiver(0), 0);
        Checks.due("buildings do not count", Checks.laid("hrsfw").setRiver(6), 25);
        Checks.promise(3, "Throws `IllegalArgumentException` if it is out of range");
        Checks.badArgument("level -1", () -> town.setRiver(-1));
        Checks.badArgument("level 11", () -> town.setRiver(11));
    }

    private static void build() {
        Checks.promise(4, "`plot`: the plot, 0 to 24");
        Ranges.within(0, 24, IndexOutOfBoundsException.class, LandRowsTest::empty, (town, plot) -> town.build(plot, 'r'));
        Hundredward all = empty();
        all.borrow(500);
        for (int plot = 0; plot < 25; plot++) {
            Checks.due("build at " + plot, all.build(plot, 'h'), true);
        }
        Checks.promise(4, "`kind`: 'r', 'h', 's', 'f' or 'w'");
        for (char kind : "rhsfw".toCharArray()) {
            Hundredward town = empty();
            Checks.due("kind " + kind, town.build(3, kind), true);
            Checks.due("is built", town.builtOn(3), kind);
        }
        Checks.promise(4, "Returns whether it is given.");
        Hundredward town = settled();
        Checks.due("one objection", town.build(5, 'w'), true);
        Checks.due("is built", town.builtOn(5), 'w');
        town.takeDown(5);
        town.setTolerance(0);
        Checks.due("one objection and one precedent", town.build(5, 'w'), true);
        town.takeDown(5);
        Checks.due("one objection to another kind", town.build(5, 'f'), false);
        Checks.due("nothing is built", town.builtOn(5), '.');
        Checks.promise(4, "Throws `IndexOutOfBoundsException` if there is no such plot");
        Checks.outOfBounds("plot -1", () -> town.build(-1, 'r'));
        Checks.outOfBounds("plot 25 is first", () -> town.build(25, '.'));
        Checks.promise(4, "Throws `IllegalArgumentException` if there is no such kind");
        for (char kind : new char[] {'.', 'R', 'H', 'q', 'g', 't', 'x', 'i', 0, (char) ('r' + 256), (char) -1}) {
            Checks.badArgument("kind " + (int) kind, () -> town.build(20, kind));
            Checks.badArgument("on a building, too: " + (int) kind, () -> town.build(0, kind));
        }
        Checks.promise(4,
                "Throws `IllegalStateException` if something is built there, or the treasury has less than 40");
        for (int plot : new int[] {0, 1, 2}) {
            Checks.badState("something at " + plot, () -> town.build(plot, 'r'));
        }
        Hundredward poor = Towns.treasury(empty(), 39);
        Checks.badState("39", () -> poor.build(0, 'r'));
        Checks.due("40", Towns.treasury(empty(), 40).build(0, 'r'), true);
    }

    private static void takeDown() {
        Checks.promise(5, "`plot`: the plot, 0 to 24");
        Hundredward all = empty();
        all.borrow(500);
        for (int plot = 0; plot < 25; plot++) {
            all.build(plot, 'r');
            Checks.due("takeDown at " + plot, all.takeDown(plot), 'r');
        }
        Ranges.plotsThat(IllegalStateException.class, LandRowsTest::empty, (town, plot) -> town.takeDown(plot));
        Checks.promise(5, "Returns what it was.");
        Hundredward row = Checks.laid("rhsfw");
        for (int plot = 0; plot < 5; plot++) {
            Checks.due("it was", row.takeDown(plot), "rhsfw".charAt(plot));
            Checks.due("it is", row.builtOn(plot), '.');
        }
        Checks.due("for nothing", row.balance(0), 300);
        Checks.promise(5, "Throws `IndexOutOfBoundsException` if there is no such plot");
        Checks.outOfBounds("plot -1", () -> row.takeDown(-1));
        Checks.outOfBounds("plot 25", () -> row.takeDown(25));
        Checks.promise(5,
                "Throws `IllegalStateException` if nothing is built there, somebody has the home, or a firm is there");
        Hundredward town = settled();
        Checks.badState("somebody has the home", () -> town.takeDown(0));
        Checks.badState("a firm is there", () -> town.takeDown(2));
        Checks.badState("nothing is there", () -> town.takeDown(3));
        Checks.due("a road that somebody goes over", town.takeDown(1), 'r');
        Checks.badState("not twice", () -> town.takeDown(1));
        town.leave(0);
        Checks.due("a home that nobody has", town.takeDown(0), 'h');
        Hundredward shop = Checks.laid("sf");
        shop.found(0, 1, 1);
        Checks.badState("a firm is in the shop", () -> shop.takeDown(0));
        Checks.due("none is in the factory", shop.takeDown(1), 'f');
    }

    private static void setTolerance() {
        Checks.promise(6, "`tolerance`: the tolerance, 0 to 4");
        Ranges.within(0, 4, BAD, LandRowsTest::empty, (town, to) -> town.setTolerance(to));
        Checks.promise(6, "Returns the one before the call.");
        Hundredward town = empty();
        int before = 1;
        for (int to : new int[] {1, 0, 4, 4, 2, 3}) {
            Checks.due("before " + to, town.setTolerance(to), before);
            Checks.due("law", town.law('t'), to);
            before = to;
        }
        Checks.promise(6, "Throws `IllegalArgumentException` if it is out of range");
        Checks.badArgument("-1", () -> town.setTolerance(-1));
        Checks.badArgument("5", () -> town.setTolerance(5));
        Checks.due("it is as it was", town.law('t'), 3);
    }

    private static Hundredward voters() {
        return Towns.peopled(empty(), 100, 100, 100);
    }

    private static void vote() {
        Checks.promise(7, "`what`: 'i' the income tax, 's' the sales tax, 'r' the greatest rent");
        for (char what : "isr".toCharArray()) {
            Hundredward town = voters();
            int[] before = {town.law('i'), town.law('s'), town.law('r')};
            Checks.due("vote on " + what, town.vote(what, 50 + (what == 'r' ? 1 : 0)), true);
            Checks.due("law i", town.law('i'), what == 'i' ? 50 : before[0]);
            Checks.due("law s", town.law('s'), what == 's' ? 50 : before[1]);
            Checks.due("law r", town.law('r'), what == 'r' ? 51 : before[2]);
        }
        Checks.promise(7, "`number`: a percentage from 0 to 50, or a rent from 1 to 99");
        Ranges.within(0, 50, BAD, LandRowsTest::voters, (town, number) -> town.vote('i', number));
        Ranges.within(0, 50, BAD, LandRowsTest::voters, (town, number) -> town.vote('s', number));
        Ranges.within(1, 99, BAD, LandRowsTest::voters, (town, number) -> town.vote('r', number));
        Checks.promise(7, "Returns whether it is as proposed.");
        Hundredward town = voters();
        Checks.due("for more", town.vote('i', 11), true);
        Checks.due("for less", town.vote('i', 10), false);
        Checks.due("the same", town.vote('i', 11), false);
        Checks.due("as proposed", town.law('i'), 11);
        Checks.promise(7, "Throws `IllegalArgumentException` if there is no such matter, or the number is out of range");
        for (char what : new char[] {'t', 'I', 'w', '.', 0, (char) ('i' + 256), (char) -1}) {
            Checks.badArgument("matter " + (int) what, () -> town.vote(what, 10));
            Checks.badArgument("and number of matter " + (int) what, () -> town.vote(what, -1));
        }
        Checks.badArgument("i 51", () -> town.vote('i', 51));
        Checks.badArgument("s 51", () -> town.vote('s', 51));
        Checks.badArgument("r 0", () -> town.vote('r', 0));
        Checks.due("r 51", town.vote('r', 51), true);
    }

    private static void law() {
        Checks.promise(8, "`what`: as for vote(), or 't' the tolerance");
        Hundredward town = empty();
        Checks.due("i", town.law('i'), 10);
        Checks.due("s", town.law('s'), 5);
        Checks.due("r", town.law('r'), 50);
        Checks.due("t", town.law('t'), 1);
        Checks.promise(8, "Returns the number.");
        Hundredward other = voters();
        Checks.due("votes", other.vote('i', 12) && other.vote('s', 13) && other.vote('r', 90), true);
        other.setTolerance(4);
        Checks.due("i then", other.law('i'), 12);
        Checks.due("s then", other.law('s'), 13);
        Checks.due("r then", other.law('r'), 90);
        Checks.due("t then", other.law('t'), 4);
        Checks.promise(8, "Throws `IllegalArgumentException` if there is no such matter");
        for (int first = 0; first <= Character.MAX_VALUE; first += 256) {
            Hundredward asked = empty();
            for (int sign = first; sign < first + 256; sign++) {
                char what = (char) sign;
                if ("isrt".indexOf(what) < 0) {
                    Checks.badArgument("matter " + sign, () -> asked.law(what));
                }
            }
        }
    }

    private static void builtOn() {
        Checks.promise(9, "`plot`: the plot, 0 to 24");
        Ranges.plots(LandRowsTest::empty, Hundredward::builtOn);
        Checks.promise(9, "Returns its kind.");
        Hundredward town = Checks.laid("rhsfw", ".");
        for (int plot = 0; plot <= 5; plot++) {
            Checks.due("kind at " + plot, town.builtOn(plot), "rhsfw.".charAt(plot));
        }
        Checks.promise(9, "Throws `IndexOutOfBoundsException` if there is no such plot");
        Checks.outOfBounds("plot -1", () -> town.builtOn(-1));
        Checks.outOfBounds("plot 25", () -> town.builtOn(25));
    }

    private static void nameOf() {
        Checks.promise(10, "`plot`: the plot, 0 to 24");
        Ranges.plots(LandRowsTest::empty, Hundredward::nameOf);
        Checks.promise(10, "Returns the name.");
        Hundredward town = settled();
        Checks.due("without water", town.nameOf(0), 4);
        Checks.due("of a road", town.nameOf(1), 5);
        Checks.due("of nothing", town.nameOf(24), 5);
        Checks.promise(10, "Throws `IndexOutOfBoundsException` if there is no such plot");
        Checks.outOfBounds("plot -1", () -> town.nameOf(-1));
        Checks.outOfBounds("plot 25", () -> town.nameOf(25));
    }

    private static void rentOf() {
        Checks.promise(11, "`plot`: the plot, 0 to 24");
        Hundredward last = empty();
        last.build(24, 'h');
        Towns.peopled(last, 100).pass(1);
        Checks.due("rent of 24", last.rentOf(24), 1);
        Ranges.plotsThat(java.util.NoSuchElementException.class, LandRowsTest::empty, Hundredward::rentOf);
        Checks.promise(11, "Returns the rent.");
        Hundredward town = settled();
        Checks.due("the rent", town.rentOf(0), 15);
        Checks.promise(11, "Throws `IndexOutOfBoundsException` if there is no such plot");
        Checks.outOfBounds("plot -1", () -> town.rentOf(-1));
        Checks.outOfBounds("plot 25", () -> town.rentOf(25));
        Checks.promise(11, "Throws `NoSuchElementException` if nobody has a home there");
        Checks.noElement("a road", () -> town.rentOf(1));
        Checks.noElement("a factory", () -> town.rentOf(2));
        Checks.noElement("nothing", () -> town.rentOf(3));
        town.leave(0);
        Checks.noElement("a home that nobody has", () -> town.rentOf(0));
    }

    private static void load() {
        Checks.promise(12, "`plot`: the plot, 0 to 24");
        Ranges.plots(LandRowsTest::empty, Hundredward::load);
        Checks.promise(12, "Returns how many.");
        Hundredward town = Towns.peopled(Checks.laid("hrf", ".h"), 300, 200);
        town.found(2, 1, 1);
        Checks.due("before a day", town.load(1), 0);
        town.pass(1);
        Checks.due("two go over 1", town.load(1), 2);
        Checks.due("none over their homes", town.load(0) + town.load(6), 0);
        Checks.due("none over the factory", town.load(2), 0);
        town.leave(0);
        town.takeDown(1);
        Checks.due("the last day's", town.load(1), 2);
        town.build(1, 'r');
        town.pass(1);
        Checks.due("one goes over 1", town.load(1), 1);
        town.leave(1);
        town.pass(1);
        Checks.due("nobody goes over 1", town.load(1), 0);
        Checks.promise(12, "Throws `IndexOutOfBoundsException` if there is no such plot");
        Checks.outOfBounds("plot -1", () -> town.load(-1));
        Checks.outOfBounds("plot 25", () -> town.load(25));
    }

    private static void hadWater() {
        Checks.promise(13, "`plot`: the plot, 0 to 24");
        Ranges.plots(LandRowsTest::empty, Hundredward::hadWater);
        Checks.promise(13, "Returns whether it had.");
        Hundredward town = Checks.laid("wh.h");
        Checks.due("before a day", town.hadWater(1), false);
        town.pass(1);
        Checks.due("beside waterworks", town.hadWater(1), true);
        Checks.due("the waterworks", town.hadWater(0), false);
        Checks.due("without a way", town.hadWater(3), false);
        town.takeDown(0);
        Checks.due("the last day's", town.hadWater(1), true);
        town.pass(1);
        Checks.due("the next day's", town.hadWater(1), false);
        Checks.promise(13, "Throws `IndexOutOfBoundsException` if there is no such plot");
        Checks.outOfBounds("plot -1", () -> town.hadWater(-1));
        Checks.outOfBounds("plot 25", () -> town.hadWater(25));
    }

    private static void way() {
        Checks.promise(14, "`plot`: the plot, 0 to 24");
        Ranges.plots(LandRowsTest::empty, (town, plot) -> town.way(plot, Math.max(0, Math.min(24, plot))));
        Checks.promise(14, "`other`: the other plot, 0 to 24");
        Ranges.plots(LandRowsTest::empty, (town, plot) -> town.way(Math.max(0, Math.min(24, plot)), plot));
        Checks.promise(14, "Returns the number of roads.");
        Hundredward town = Checks.laid("hrrrs", "r...r", "rrrrr");
        Checks.due("the fewest", town.way(0, 4), 3);
        Checks.due("back", town.way(4, 0), 3);
        Checks.due("none", town.way(0, 1), 0);
        Checks.due("one", town.way(0, 2), 1);
        Checks.due("to nothing", town.way(0, 7), 2);
        Checks.promise(14, "Throws `IndexOutOfBoundsException` if there is no such plot, for either");
        for (int plot : new int[] {-1, 25, Integer.MIN_VALUE, Integer.MAX_VALUE}) {
            Checks.outOfBounds("from " + plot, () -> town.way(plot, 0));
            Checks.outOfBounds("to " + plot, () -> town.way(0, plot));
            Checks.outOfBounds("both " + plot, () -> town.way(plot, plot));
        }
        town.setRiver(10);
        Checks.outOfBounds("from a flooded plot to none", () -> town.way(0, 25));
        town.setRiver(0);
        Checks.promise(14, "Throws `NoSuchElementException` if there is no way");
        Checks.noElement("none", () -> town.way(0, 23));
        town.setRiver(6);
        Checks.noElement("flooded", () -> town.way(0, 1));
    }
}

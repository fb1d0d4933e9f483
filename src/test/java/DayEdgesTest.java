/** What Terms say of the steps 1 to 5 of a day, each sentence at its boundary and on both sides of it. */
public final class DayEdgesTest {
    public static void main(String[] args) {
        risingNumbers();
        flood();
        floodedName();
        freeHomes();
        bids();
        greatestBid();
        rents();
        greatestRent();
        hiring();
        hiringByWage();
        hiringByWay();
        Checks.finish();
    }

    private static void risingNumbers() {
        Checks.terms("A day goes like this, plots, households and firms each by rising numbers, if nothing else is told:");
        Hundredward firms = Checks.laid("s.s.s");
        firms.found(4, 1, 1);
        firms.found(0, 1, 1);
        firms.found(2, 1, 1);
        Checks.due("firms by their numbers, not by plots", Towns.day(firms), "10>1:5 11>1:5 12>1:5");
        Hundredward homes = Towns.peopled(Checks.laid("hf.fh"), 100, 200);
        homes.found(1, 1, 1);
        homes.found(3, 1, 1);
        Checks.due("the lower home first", Towns.day(homes),
                "11>100:1 10>101:1 100>0:1 101>0:15 10>1:5 11>1:5");
        Checks.due("so that the greatest bid has it", homes.homeOf(1), 0);
        Hundredward jobs = Towns.peopled(Checks.laid("hsh"), 100, 200);
        jobs.found(1, 1, 1);
        jobs.pass(1);
        Checks.due("the lower household takes the job", jobs.firmOf(0), 0);
        Checks.due("though its home is the upper one", jobs.homeOf(0), 2);
        Hundredward shops = Checks.laid("hsfsh", "..h..");
        Towns.skilled(shops, 0, 0, 3);
        shops.found(3, 1, 90);
        shops.found(1, 1, 90);
        shops.found(2, 2, 20);
        shops.pass(1);
        Checks.due("the lower shop buys first", shops.stockOf(0), 3);
        Checks.due("and leaves nothing for the other one", shops.stockOf(1), 0);
    }

    private static void flood() {
        Checks.terms("1. Flood: each household whose home is flooded has no home then,");
        for (int height = 3; height <= 5; height++) {
            Hundredward town = Towns.peopled(Checks.laid("hh"), 300, 200);
            town.pass(1);
            town.setHeight(0, height);
            town.setRiver(4);
            Checks.due("not before the day", town.homeOf(0), 0);
            town.pass(1);
            Checks.due("a home of height " + height + " at a level of 4", town.homeOf(0), height < 4 ? -1 : 0);
            Checks.due("the other one is dry", town.homeOf(1), 1);
        }
        Hundredward both = Towns.peopled(Checks.laid("hh"), 300, 200);
        both.pass(1);
        both.setRiver(6);
        both.pass(1);
        Checks.due("each of them", both.homeOf(0) + both.homeOf(1), -2);
        both.setRiver(5);
        both.pass(1);
        Checks.due("homes at the level are let again", both.homeOf(0) + both.homeOf(1), 1);
    }

    private static void floodedName() {
        Checks.terms("and the name of this plot is 3 less, but not less than 0.");
        for (int days = 1; days <= 3; days++) {
            Hundredward town = Towns.peopled(Checks.laid("h"), 100);
            town.pass(days);
            Checks.due("the name after " + days, town.nameOf(0), 5 - days);
            town.setRiver(6);
            town.pass(1);
            Checks.due("the name after the flood", town.nameOf(0), Math.max(0, 5 - days - 3));
            Checks.due("the names of others", town.nameOf(1), 5);
        }
        Hundredward empty = Towns.peopled(Checks.laid("h"), 100);
        empty.setRiver(6);
        empty.pass(2);
        Checks.due("a home that nobody has keeps its name", empty.nameOf(0), 5);
        Hundredward again = Towns.peopled(Checks.laid("h"), 100);
        again.pass(1);
        again.setRiver(6);
        again.pass(2);
        Checks.due("it is flooded once", again.nameOf(0), 1);
    }

    private static void freeHomes() {
        Checks.terms("2. Homes: for each home that is not flooded and that nobody has,");
        for (int height = 3; height <= 5; height++) {
            Hundredward town = Checks.laid("h");
            town.setHeight(0, height);
            town.setRiver(4);
            Towns.peopled(town, 100).pass(1);
            Checks.due("a home of height " + height + " at a level of 4", town.homeOf(0), height < 4 ? -1 : 0);
        }
        Hundredward taken = Towns.peopled(Checks.laid("h"), 100);
        taken.pass(1);
        Towns.peopled(taken, 999).pass(1);
        Checks.due("a home that somebody has is not let again", taken.homeOf(0), 0);
        Checks.due("whatever others would bid", taken.homeOf(1), -1);
        Checks.due("nor is its rent more", taken.rentOf(0), 1);
        Hundredward others = Towns.peopled(Checks.laid("rsfw"), 100);
        others.pass(1);
        Checks.due("no other building is a home", others.homeOf(0), -1);
        Hundredward last = new Hundredward();
        last.build(24, 'h');
        Towns.peopled(last, 100).pass(1);
        Checks.due("the last plot is one of them", last.homeOf(0), 24);
    }

    private static void bids() {
        Checks.terms("each household without a home bids a tenth of its money, rounded down, plus the name of the plot;");
        int[][] pairs = {{0, 5}, {9, 5}, {10, 6}, {19, 6}, {99, 14}, {100, 15}, {109, 15}, {110, 16}};
        for (int[] pair : pairs) {
            Hundredward town = Towns.peopled(Checks.laid("h"), 999, pair[0]);
            town.pass(1);
            Checks.due("the bid of " + pair[0], town.rentOf(0), pair[1]);
            town.leave(0);
            town.leave(1);
            Towns.peopled(town, 999, pair[0]).pass(1);
            Checks.due("with a name of 4", town.rentOf(0), pair[1] - 1);
        }
        Hundredward two = Towns.peopled(Checks.laid("hh"), 100);
        two.pass(1);
        Checks.noElement("who has a home bids for no other", () -> two.rentOf(1));
        Towns.peopled(two, 300, 50).pass(1);
        Checks.due("so that it raises no rent", two.rentOf(1), 10);
    }

    private static void greatestBid() {
        Checks.terms("the one with the greatest bid, of several the first one, gets it;");
        Hundredward equal = Towns.peopled(Checks.laid("h"), 100, 109, 100);
        equal.pass(1);
        Checks.due("109 bids no more than 100", equal.homeOf(0), 0);
        Hundredward more = Towns.peopled(Checks.laid("h"), 100, 110, 110);
        more.pass(1);
        Checks.due("110 bids more", more.homeOf(1), 0);
        Hundredward last = Towns.peopled(Checks.laid("h"), 100, 100, 110);
        last.pass(1);
        Checks.due("the last one bids most", last.homeOf(2), 0);
        Hundredward alone = Towns.peopled(Checks.laid("h"), 0);
        alone.pass(1);
        Checks.due("one that bids alone had it, but cannot pay", alone.nameOf(0), 4);
        Hundredward gone = Towns.peopled(Checks.laid("h"), 999, 100);
        gone.leave(0);
        gone.pass(1);
        Checks.due("one that left bids nothing", gone.homeOf(1), 0);
    }

    /** A home with a name of 0, that nobody has: it was lived in for three days and flooded then. */
    private static Hundredward nameless() {
        Hundredward town = Towns.peopled(Checks.laid("h"), 100);
        town.pass(3);
        town.setRiver(6);
        town.pass(1);
        town.setRiver(0);
        Checks.due("the name", town.nameOf(0), 0);
        Checks.due("nobody is there", town.households(), 0);
        return town;
    }

    private static void rents() {
        Checks.terms("its rent is the second greatest bid, or 1, if there is none or it is 0,");
        int[][] secondAndRent = {{0, 1}, {9, 1}, {10, 1}, {19, 1}, {20, 2}, {29, 2}, {30, 3}};
        for (int[] pair : secondAndRent) {
            Hundredward town = Towns.peopled(nameless(), 300, pair[0]);
            town.pass(1);
            Checks.due("the home of the first", town.homeOf(1), 0);
            Checks.due("with a second one of " + pair[0], town.rentOf(0), pair[1]);
            Hundredward turned = Towns.peopled(nameless(), pair[0], 300);
            turned.pass(1);
            Checks.due("with a first one of " + pair[0], turned.rentOf(0), pair[1]);
        }
        Hundredward none = Towns.peopled(Checks.laid("h"), 300);
        none.pass(1);
        Checks.due("without another bid", none.rentOf(0), 1);
        Hundredward zero = Towns.peopled(nameless(), 9, 9);
        zero.pass(1);
        Checks.due("the first of two bids of 0", zero.homeOf(1), 0);
        Checks.due("for 1", zero.rentOf(0), 1);
        Hundredward equal = Towns.peopled(Checks.laid("h"), 300, 309, 100);
        equal.pass(1);
        Checks.due("a second one that is as great", equal.rentOf(0), 35);
        Hundredward three = Towns.peopled(Checks.laid("h"), 100, 300, 200);
        three.pass(1);
        Checks.due("the second of three", three.rentOf(0), 25);
        Hundredward falling = Towns.peopled(Checks.laid("h"), 300, 100, 200);
        falling.pass(1);
        Checks.due("the second of three in another order", falling.rentOf(0), 25);
    }

    private static void greatestRent() {
        Checks.terms("and not more than the greatest rent, 50 at first.");
        for (int second : new int[] {49, 50, 51, 99}) {
            Hundredward town = Towns.peopled(Checks.laid("h"), 999, (second - 5) * 10);
            town.pass(1);
            Checks.due("with a second bid of " + second, town.rentOf(0), Math.min(50, second));
        }
        for (int second : new int[] {59, 60, 61}) {
            Hundredward town = Towns.peopled(Checks.laid("h"), 999, (second - 5) * 10);
            Checks.due("a greater one", town.vote('r', 60), true);
            town.pass(1);
            Checks.due("then with a second bid of " + second, town.rentOf(0), Math.min(60, second));
        }
        Hundredward least = Towns.peopled(Checks.laid("h"), 999);
        least.pass(1);
        Checks.due("the least one", least.vote('r', 1), true);
        least.leave(0);
        Towns.peopled(least, 999, 999).pass(1);
        Checks.due("then the rent is 1", least.rentOf(0), 1);
    }

    private static void hiring() {
        Checks.terms("3. Hiring: each household with a home and without a firm takes the job,");
        Hundredward town = Towns.peopled(Checks.laid("hfh", "ss"), 300, 200, 100);
        town.found(1, 5, 1);
        town.pass(1);
        Checks.due("with a home", town.firmOf(0), 0);
        Checks.due("with the other home", town.firmOf(1), 0);
        Checks.due("without a home", town.firmOf(2), -1);
        town.found(5, 99, 1);
        town.pass(1);
        Checks.due("who has a firm stays there", town.firmOf(0), 0);
        Checks.due("whatever another one pays", town.workersOf(1), 0);
        town.leave(1);
        town.pass(1);
        Checks.due("who has a home now takes a job", town.firmOf(2), 0);
    }

    private static void hiringByWage() {
        Checks.terms("among firms with free jobs to whose plots its home has a way, with the greatest wage, of several of the",
                "first one.");
        int[][] wages = {{5, 5, 5, 0}, {5, 6, 5, 1}, {5, 5, 6, 2}, {4, 5, 5, 1}, {5, 4, 5, 0}, {1, 94, 95, 2}, {95, 94, 1, 0}};
        for (int[] row : wages) {
            Hundredward town = Towns.peopled(Checks.laid(".s.", "shs"), 100);
            town.found(7, row[0], 1);
            town.found(1, row[1], 1);
            town.found(5, row[2], 1);
            town.pass(1);
            Checks.due("wages " + row[0] + " " + row[1] + " " + row[2], town.firmOf(0), row[3]);
        }
        Hundredward full = Towns.peopled(Checks.laid(".h.h", ".sfs", "..h"), 400, 300, 200);
        full.found(6, 9, 1);
        full.found(7, 5, 1);
        full.found(8, 9, 1);
        full.pass(1);
        Checks.due("the first has the first shop", full.firmOf(0), 0);
        Checks.due("the second has the other shop", full.firmOf(1), 2);
        Checks.due("the third has the factory", full.firmOf(2), 1);
    }

    private static void hiringByWay() {
        Hundredward far = Towns.peopled(Checks.laid("hrs", "s"), 100);
        far.found(2, 9, 1);
        far.found(5, 1, 1);
        far.pass(1);
        Checks.due("over a road", far.firmOf(0), 0);
        Hundredward none = Towns.peopled(Checks.laid("h.s", "s"), 100);
        none.found(2, 9, 1);
        none.found(5, 1, 1);
        none.pass(1);
        Checks.due("over no road", none.firmOf(0), 1);
        for (int height = 3; height <= 4; height++) {
            Hundredward road = Towns.peopled(Checks.laid("hrs", "s"), 100);
            road.setHeight(1, height);
            road.setRiver(4);
            road.found(2, 9, 1);
            road.found(5, 1, 1);
            road.pass(1);
            Checks.due("over a road of height " + height, road.firmOf(0), height < 4 ? 1 : 0);
            Hundredward plot = Towns.peopled(Checks.laid("hs"), 100);
            plot.setHeight(1, height);
            plot.setRiver(4);
            plot.found(1, 9, 1);
            plot.pass(1);
            Checks.due("to a firm of height " + height, plot.firmOf(0), height < 4 ? -1 : 0);
        }
    }
}

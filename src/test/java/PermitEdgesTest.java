/** What Terms say of permits, each sentence at its boundary and on both sides of it. */
public final class PermitEdgesTest {
    public static void main(String[] args) {
        cost();
        objectionsFromEach();
        objectionsFromWorkers();
        objectionsFromNone();
        noObjections();
        tolerance();
        precedents();
        precedentsOfRoads();
        noPrecedents();
        refusals();
        belowZero();
        Checks.finish();
    }

    private static void cost() {
        Checks.terms("To build costs 40, from the treasury to the builders.");
        Hundredward less = Towns.treasury(new Hundredward(), 39);
        Checks.badState("39 are too little", () -> less.build(0, 'h'));
        Checks.due("nothing is paid", less.balance(0), 39);
        Checks.due("nothing is built", less.builtOn(0), '.');
        for (int money : new int[] {40, 41}) {
            Hundredward town = Towns.treasury(new Hundredward(), money);
            int before = town.entries();
            int builders = town.balance(2);
            Checks.due(money + " are enough", town.build(0, 'h'), true);
            Checks.due("what is left", town.balance(0), money - 40);
            Checks.due("the builders have it", town.balance(2), builders + 40);
            Checks.due("one entry", Towns.since(town, before), "0>2:40");
        }
    }

    /** Homes on all sides of 12, in the first of which households live, and one at a corner of 12. */
    private static Hundredward round(int households, int tolerance) {
        Hundredward town = Checks.laid(".....", "..h..", ".h.h.", "..hh.");
        for (int i = 0; i < households; i++) {
            town.arrive(0, 100);
        }
        town.pass(1);
        town.setTolerance(tolerance);
        return town;
    }

    private static void objectionsFromEach() {
        Checks.terms("Objections come from the households in homes that are neighbours: to 'f' and 'w' from each,");
        for (char kind : "fw".toCharArray()) {
            for (int households = 0; households <= 5; households++) {
                for (int tolerance = 0; tolerance <= 4; tolerance++) {
                    Hundredward town = round(households, tolerance);
                    int objections = Math.min(4, households);
                    Checks.due(kind + " with " + households + " and " + tolerance, town.build(12, kind),
                            objections <= tolerance);
                }
            }
        }
        Hundredward corner = round(5, 0);
        for (int household = 0; household < 4; household++) {
            corner.leave(household);
        }
        Checks.due("the one at the corner lives there", corner.homeOf(4), 18);
        Checks.due("and is no neighbour", corner.build(12, 'f'), true);
        Hundredward edge = Towns.peopled(Checks.laid("....h", "....."), 100);
        edge.pass(1);
        edge.setTolerance(0);
        Checks.due("nor is the end of the row above", edge.build(5, 'f'), true);
        Checks.due("but the plot below is", edge.build(9, 'f'), false);
    }

    /** Homes on all sides of 12, a shop beside each, and firms in the first of the shops. */
    private static Hundredward working(int firms, int tolerance) {
        Hundredward town = Checks.laid("..s..", "..h..", "sh.hs", "..h..", "..s..");
        int[] shops = {2, 10, 14, 22};
        for (int i = 0; i < firms; i++) {
            town.found(shops[i], 1, 1);
        }
        Towns.peopled(town, 100, 100, 100, 100).pass(1);
        town.setTolerance(tolerance);
        return town;
    }

    private static void objectionsFromWorkers() {
        Checks.terms("to 'r' from each with a firm,");
        for (int firms = 0; firms <= 4; firms++) {
            for (int tolerance = 0; tolerance <= 4; tolerance++) {
                Hundredward town = working(firms, tolerance);
                Checks.due(firms + " have a firm", town.workingShare(), firms / 4f);
                Checks.due("r with " + firms + " and " + tolerance, town.build(12, 'r'), firms <= tolerance);
            }
        }
    }

    private static void objectionsFromNone() {
        Checks.terms("to the others from none.");
        for (char kind : "hs".toCharArray()) {
            Hundredward town = working(4, 0);
            Checks.due("nobody minds " + kind, town.build(12, kind), true);
            town.takeDown(12);
            Checks.due("a factory is refused there", town.build(12, 'f'), false);
            Checks.due("a road, too", town.build(12, 'r'), false);
            Checks.due("still nobody minds " + kind, town.build(12, kind), true);
        }
    }

    private static void noObjections() {
        Hundredward town = round(4, 0);
        Checks.due("f over four", town.build(12, 'f'), false);
        town.setTolerance(1);
        for (int household = 0; household < 4; household++) {
            town.leave(household);
        }
        Checks.due("homes that nobody has do not object", town.build(12, 'f'), true);
    }

    private static void tolerance() {
        Checks.terms("It is built if the objections are not more than the tolerance, 1 at first,");
        Checks.due("1 at first", new Hundredward().law('t'), 1);
        Hundredward town = Checks.laid(".h.", "...", ".h.");
        Towns.peopled(town, 100, 100).pass(1);
        Checks.due("two are more than 1", town.build(6, 'f'), false);
        Hundredward one = Towns.peopled(Checks.laid(".h"), 100);
        one.pass(1);
        Checks.due("one is not more than 1", one.build(6, 'f'), true);
        for (int level = 0; level <= 3; level++) {
            Checks.due("as many as the tolerance " + level, round(level, level).build(12, 'w'), true);
            Checks.due("one more than the tolerance " + level, round(level + 1, level).build(12, 'w'), false);
        }
    }

    private static void precedents() {
        Checks.terms("plus how often something of this kind was built over objections,");
        for (char kind : "fw".toCharArray()) {
            Hundredward town = round(4, 4);
            Checks.due("four over 4", town.build(12, kind), true);
            town.takeDown(12);
            town.setTolerance(3);
            Checks.due("four over 3 and 1 of before", town.build(12, kind), true);
            town.takeDown(12);
            town.setTolerance(1);
            Checks.due("four over 1 and 2 of before", town.build(12, kind), false);
            town.setTolerance(2);
            Checks.due("four over 2 and 2 less 1", town.build(12, kind), false);
            town.setTolerance(4);
            Checks.due("four over 4 and 2 less 2", town.build(12, kind), true);
            town.takeDown(12);
            char other = kind == 'f' ? 'w' : 'f';
            town.setTolerance(3);
            Checks.due("four over 3, as those were of another kind", town.build(12, other), false);
        }
    }

    private static void precedentsOfRoads() {
        Hundredward town = working(1, 1);
        Checks.due("one over 1", town.build(12, 'r'), true);
        town.takeDown(12);
        town.setTolerance(0);
        Checks.due("one over 0 and 1 of before", town.build(12, 'r'), true);
        Checks.due("a factory over one neighbour and 0", town.build(6, 'f'), false);
        Checks.due("a factory over none, 0 less 1", town.build(24, 'f'), false);
        Checks.due("a road over none", town.build(24, 'r'), true);
    }

    private static void noPrecedents() {
        Hundredward town = round(1, 0);
        Checks.due("f over none", town.build(24, 'f'), true);
        Checks.due("f over none again", town.build(23, 'f'), true);
        Checks.due("f over one and 0, as there was no objection", town.build(12, 'f'), false);
        Hundredward thrown = round(1, 0);
        Checks.badState("a demand that throws", () -> thrown.build(7, 'f'));
        Checks.due("is no refusal", thrown.build(24, 'f'), true);
    }

    private static void refusals() {
        Checks.terms("less how often it was refused,");
        Hundredward town = round(3, 2);
        Checks.due("three over 2", town.build(12, 'f'), false);
        town.setTolerance(3);
        Checks.due("three over 3 less 1", town.build(12, 'f'), false);
        town.setTolerance(4);
        Checks.due("three over 4 less 2", town.build(12, 'f'), false);
        Checks.due("what w was refused is another matter", town.build(12, 'w'), true);
        town.takeDown(12);
        town.leave(0);
        town.leave(1);
        Checks.due("one over 4 less 3", town.build(12, 'f'), true);
        town.takeDown(12);
        town.setTolerance(3);
        Checks.due("one over 3 less 3 and 1 of before", town.build(12, 'f'), true);
    }

    private static void belowZero() {
        Checks.terms("also if this is below 0, when it is refused without objections, too.");
        for (char kind : "fwr".toCharArray()) {
            Hundredward town = kind == 'r' ? working(1, 0) : round(1, 0);
            Checks.due(kind + " over one and 0", town.build(12, kind), false);
            town.setTolerance(1);
            int spare = kind == 'r' ? 0 : 24;
            Checks.due(kind + " over none, 1 less 1 is 0", town.build(spare, kind), true);
            town.takeDown(spare);
            town.setTolerance(0);
            int money = town.balance(0);
            Checks.due(kind + " over none, 0 less 1 is below 0", town.build(spare, kind), false);
            Checks.due("nothing is paid", town.balance(0), money);
            Checks.due("nothing is built", town.builtOn(spare), '.');
            town.setTolerance(1);
            Checks.due(kind + " over none, 1 less 2 is below 0", town.build(spare, kind), false);
            town.setTolerance(3);
            Checks.due(kind + " over none, 3 less 3 is 0", town.build(spare, kind), true);
            Checks.due(kind + " over one, 3 less 3 is 0", town.build(12, kind), false);
        }
    }
}

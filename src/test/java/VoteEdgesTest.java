/** What Terms say of votes, each sentence at its boundary and on both sides of it. */
public final class VoteEdgesTest {
    public static void main(String[] args) {
        nobody();
        income();
        sales();
        rents();
        against();
        same();
        majority();
        cutting();
        cuttingByFailure();
        ranges();
        Checks.finish();
    }

    private static void nobody() {
        Checks.terms("Households vote on a new number.");
        Hundredward town = Checks.laid("hs");
        town.found(1, 1, 1);
        for (int number : new int[] {0, 9, 10, 11, 50}) {
            Checks.due("nobody is for i " + number, town.vote('i', number), false);
            Checks.due("nobody is for s " + number, town.vote('s', number), false);
            Checks.due("nobody is for r " + (number + 1), town.vote('r', number + 1), false);
        }
        Towns.peopled(town, 100);
        town.leave(0);
        Checks.due("one that left does not vote", town.vote('i', 11), false);
        Checks.due("law i", town.law('i'), 10);
        Checks.due("law s", town.law('s'), 5);
        Checks.due("law r", town.law('r'), 50);
        Towns.peopled(town, 100);
        Checks.due("one that is there does", town.vote('i', 11), true);
    }

    /** One household with a home and a firm, or without both. */
    private static Hundredward one(boolean settled, int money) {
        Hundredward town = Checks.laid("hf");
        town.found(1, 1, 1);
        if (settled) {
            Towns.peopled(town, money).pass(1);
        } else {
            Towns.peopled(town, money);
        }
        return town;
    }

    /** What comes of a number that is just below, at, and just above the law. */
    private static void wants(boolean less, Hundredward town, char what) {
        int now = town.law(what);
        Checks.due(what + " as it is", town.vote(what, now), false);
        Checks.due(what + " against what it wants", town.vote(what, less ? now + 1 : now - 1), false);
        Checks.due(what + " is as it was", town.law(what), now);
        int next = less ? now - 1 : now + 1;
        Checks.due(what + " as it wants", town.vote(what, next), true);
        Checks.due(what + " is law", town.law(what), next);
        int far = less ? (what == 'r' ? 1 : 0) : (what == 'r' ? 99 : 50);
        Checks.due(what + " as far as may be", town.vote(what, far), true);
        Checks.due(what + " is so then", town.law(what), far);
        Checks.due(what + " once more", town.vote(what, far), false);
    }

    private static void income() {
        Checks.terms("For the income tax, those with a firm are for less, those without for more;");
        wants(true, one(true, 100), 'i');
        wants(false, one(false, 100), 'i');
        Hundredward homeAlone = Towns.peopled(Checks.laid("h"), 100);
        homeAlone.pass(1);
        wants(false, homeAlone, 'i');
    }

    private static void sales() {
        Checks.terms("for the sales tax, those with less than 50 are for less, the others for more;");
        for (int money : new int[] {0, 1, 48, 49}) {
            wants(true, one(false, money), 's');
        }
        for (int money : new int[] {50, 51, 999}) {
            wants(false, one(false, money), 's');
        }
        Hundredward town = one(true, 50);
        Checks.due("50 and 1 less 1 of rent", town.balance(100), 50);
        wants(false, town, 's');
        wants(true, one(true, 49), 's');
    }

    private static void rents() {
        Checks.terms("for the greatest rent, those with a home are for less, those without for more.");
        wants(true, one(true, 100), 'r');
        wants(false, one(false, 100), 'r');
        Hundredward town = one(true, 100);
        town.setRiver(6);
        town.pass(1);
        Checks.due("the home is lost", town.homeOf(0), -1);
        wants(false, town, 'r');
    }

    private static void against() {
        Checks.terms("Each household that is not for it is against it;");
        Hundredward town = Towns.peopled(new Hundredward(), 49, 50);
        Checks.due("one for less, one for more: less", town.vote('s', 4), false);
        Checks.due("one for less, one for more: more", town.vote('s', 6), false);
        town.arrive(0, 50);
        Checks.due("two for more, one against", town.vote('s', 6), true);
        Checks.due("one for less, two against", town.vote('s', 5), false);
    }

    private static void same() {
        Checks.terms("nobody is for the number that is there already.");
        for (char what : "isr".toCharArray()) {
            Hundredward town = Towns.peopled(new Hundredward(), 100, 100, 100);
            int now = town.law(what);
            Checks.due(what + " as it is", town.vote(what, now), false);
            Checks.due("it stays", town.law(what), now);
            Checks.due(what + " of one more", town.vote(what, now + 1), true);
            Checks.due(what + " of one more again", town.vote(what, now + 1), false);
            Checks.due("it stays so", town.law(what), now + 1);
        }
    }

    private static void majority() {
        Checks.terms("It is as proposed if more are for it than against it;");
        for (int poor = 0; poor <= 4; poor++) {
            for (int rich = 0; rich <= 4; rich++) {
                Hundredward less = new Hundredward();
                Hundredward more = new Hundredward();
                for (int i = 0; i < poor + rich; i++) {
                    less.arrive(0, i < poor ? 49 : 50);
                    more.arrive(0, i < poor ? 49 : 50);
                }
                String of = poor + " poor and " + rich + " rich";
                Checks.due("less by " + of, less.vote('s', 4), poor > rich);
                Checks.due("the law of " + of, less.law('s'), poor > rich ? 4 : 5);
                Checks.due("more by " + of, more.vote('s', 6), rich > poor);
                Checks.due("the law of " + of, more.law('s'), rich > poor ? 6 : 5);
            }
        }
    }

    private static void cutting() {
        Checks.terms("rents that are paid already are cut to a new greatest rent.");
        for (int greatest : new int[] {14, 15, 16}) {
            Hundredward town = Towns.peopled(Checks.laid("hhh"), 300, 200, 100);
            town.pass(1);
            Checks.due("the first rent", town.rentOf(0), 25);
            Checks.due("the second rent", town.rentOf(1), 15);
            Checks.due("the third rent", town.rentOf(2), 1);
            Checks.due("greatest " + greatest, town.vote('r', greatest), true);
            Checks.due("the first is cut", town.rentOf(0), greatest);
            Checks.due("the second is not more", town.rentOf(1), Math.min(15, greatest));
            Checks.due("the third is as it was", town.rentOf(2), 1);
            int money = town.balance(100);
            town.pass(1);
            Checks.due("what is cut is paid", town.balance(100), money - greatest);
            town.setRiver(6);
            town.pass(1);
            Checks.due("without homes they are for more", town.vote('r', 60), true);
        }
        Hundredward refused = Towns.peopled(Checks.laid("h"), 300, 200, 200);
        refused.pass(1);
        Checks.due("two without homes are against less", refused.vote('r', 10), false);
        Checks.due("nothing is cut", refused.rentOf(0), 25);
        Checks.due("they are for more", refused.vote('r', 99), true);
        Checks.due("no rent is more by that", refused.rentOf(0), 25);
    }

    private static void cuttingByFailure() {
        for (int rent : new int[] {49, 50, 51}) {
            Hundredward town = Towns.peopled(Checks.laid("h"), 999, (rent - 5) * 10);
            Checks.due("they are for more", town.vote('r', 99), true);
            town.pass(1);
            Checks.due("the rent", town.rentOf(0), rent);
            town.borrow(999);
            town.borrow(950);
            Towns.treasury(town, 2);
            town.pass(1);
            Checks.due("the town failed", town.failures(), 1);
            Checks.due("law r", town.law('r'), 50);
            Checks.due("the rent is cut to it", town.rentOf(0), Math.min(50, rent));
        }
    }

    private static void ranges() {
        Hundredward town = Towns.peopled(new Hundredward(), 100);
        for (int number : new int[] {-1, 51, Integer.MIN_VALUE, Integer.MAX_VALUE}) {
            Checks.badArgument("i " + number, () -> town.vote('i', number));
            Checks.badArgument("s " + number, () -> town.vote('s', number));
        }
        for (int number : new int[] {-1, 0, 100, Integer.MIN_VALUE, Integer.MAX_VALUE}) {
            Checks.badArgument("r " + number, () -> town.vote('r', number));
        }
        Checks.due("r 51 is a rent", town.vote('r', 51), true);
        for (int number : new int[] {0, 1, 49, 50}) {
            Checks.due("i " + number, town.vote('i', number), number > 10);
        }
    }
}

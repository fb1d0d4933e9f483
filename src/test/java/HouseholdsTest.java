/** Promises 7, 8, 15, 16 and 19 to 22: votes, households, and what is asked of them. */
public final class HouseholdsTest {
    public static void main(String[] args) {
        arriving();
        arrivingTooMany();
        leaving();
        leavingHomeAndFirm();
        questions();
        voteErrors();
        incomeVotes();
        salesVotes();
        rentVotes();
        evenVotes();
        Checks.finish();
    }

    private static void arriving() {
        Hundredward town = new Hundredward();
        Checks.due("arrive first", town.arrive(3, 999), 0);
        Checks.due("arrive with nothing", town.arrive(0, 0), 1);
        Checks.due("its money is made", town.balance(100), 999);
        Checks.due("no money, no entry", town.entries(), 3);
        Checks.due("made from -1", town.entry(2, 0), -1);
        Checks.due("to the household", town.entry(2, 1), 100);
        Checks.due("so much", town.entry(2, 2), 999);
        Checks.due("two are there", town.households(), 2);
        Checks.due("no home at first", town.homeOf(0), -1);
        Checks.due("no firm at first", town.firmOf(0), -1);
        Checks.due("no hunger at first", town.hungerOf(0), 0);
        Checks.due("no worker at first", town.costOf(0), -1);
        Checks.badArgument("arrive with skill 4", () -> town.arrive(4, 0));
        Checks.badArgument("arrive with skill -1", () -> town.arrive(-1, 0));
        Checks.badArgument("arrive with 1000", () -> town.arrive(0, 1000));
        Checks.badArgument("arrive with -1", () -> town.arrive(0, -1));
        Checks.due("nobody came by those", town.arrive(0, 1), 2);
    }

    private static void arrivingTooMany() {
        Hundredward town = new Hundredward();
        for (int i = 0; i < 12; i++) {
            Checks.due("arrive " + i, town.arrive(0, i), i);
        }
        Checks.badArgument("out of range is first", () -> town.arrive(4, 0));
        Checks.badState("12 came", () -> town.arrive(0, 0));
        town.leave(5);
        Checks.badState("12 came, one left", () -> town.arrive(0, 0));
        Checks.due("eleven are there", town.households(), 11);
    }

    private static void leaving() {
        Hundredward town = new Hundredward();
        Checks.outOfBounds("leave before anybody came", () -> town.leave(0));
        town.arrive(0, 70);
        town.arrive(0, 0);
        Checks.due("leave", town.leave(0), 70);
        Checks.due("its account is empty", town.balance(100), 0);
        int last = town.entries() - 1;
        Checks.due("from the household", town.entry(last, 0), 100);
        Checks.due("to -1", town.entry(last, 1), -1);
        Checks.due("all of it", town.entry(last, 2), 70);
        Checks.due("one is there", town.households(), 1);
        Checks.due("the town has less", town.money(), 2500L);
        Checks.due("leave with nothing", town.leave(1), 0);
        Checks.due("nothing is no entry", town.entries(), last + 1);
        Checks.noElement("leave twice", () -> town.leave(0));
        Checks.outOfBounds("leave 2", () -> town.leave(2));
        Checks.outOfBounds("leave -1", () -> town.leave(-1));
    }

    private static void leavingHomeAndFirm() {
        Hundredward town = Checks.laid("hf");
        town.arrive(0, 100);
        town.found(1, 10, 1);
        town.pass(1);
        Checks.due("it has a home", town.homeOf(0), 0);
        Checks.due("and a firm", town.workersOf(0), 1);
        town.leave(0);
        Checks.noElement("the home has no rent", () -> town.rentOf(0));
        Checks.due("the firm has no worker", town.workersOf(0), 0);
        town.arrive(1, 50);
        town.pass(1);
        Checks.due("the next one gets the home", town.homeOf(1), 0);
        Checks.due("and the job", town.firmOf(1), 0);
    }

    private static void questions() {
        Hundredward town = new Hundredward();
        town.arrive(0, 0);
        town.arrive(0, 0);
        town.leave(0);
        for (int who : new int[] {-1, 2, 12, Integer.MAX_VALUE, Integer.MIN_VALUE}) {
            Checks.outOfBounds("homeOf " + who, () -> town.homeOf(who));
            Checks.outOfBounds("firmOf " + who, () -> town.firmOf(who));
            Checks.outOfBounds("hungerOf " + who, () -> town.hungerOf(who));
            Checks.outOfBounds("costOf " + who, () -> town.costOf(who));
        }
        Checks.noElement("homeOf one that left", () -> town.homeOf(0));
        Checks.noElement("firmOf one that left", () -> town.firmOf(0));
        Checks.noElement("hungerOf one that left", () -> town.hungerOf(0));
        Checks.noElement("costOf one that left", () -> town.costOf(0));
        town.pass(3);
        Checks.due("hunger grows", town.hungerOf(1), 3);
    }

    private static void voteErrors() {
        Hundredward town = new Hundredward();
        town.arrive(0, 100);
        for (char what : new char[] {'t', 'x', 'I', '.', (char) 0, (char) 65535}) {
            Checks.badArgument("vote on " + (int) what, () -> town.vote(what, 1));
        }
        Checks.badArgument("vote i -1", () -> town.vote('i', -1));
        Checks.badArgument("vote i 51", () -> town.vote('i', 51));
        Checks.badArgument("vote s -1", () -> town.vote('s', -1));
        Checks.badArgument("vote s 51", () -> town.vote('s', 51));
        Checks.badArgument("vote r 0", () -> town.vote('r', 0));
        Checks.badArgument("vote r 100", () -> town.vote('r', 100));
        for (char what : new char[] {'x', 'I', 'w', (char) 0}) {
            Checks.badArgument("law of " + (int) what, () -> town.law(what));
        }
        Checks.due("law i is as it was", town.law('i'), 10);
        Checks.due("vote i 50", town.vote('i', 50), true);
        Checks.due("vote s 50", town.vote('s', 50), true);
        Checks.due("vote r 99", town.vote('r', 99), true);
        Checks.due("law i", town.law('i'), 50);
        Checks.due("law s", town.law('s'), 50);
        Checks.due("law r", town.law('r'), 99);
    }

    private static void incomeVotes() {
        Hundredward town = Checks.laid("hf");
        town.arrive(0, 100);
        town.found(1, 10, 1);
        Checks.due("without a firm, for less", town.vote('i', 9), false);
        Checks.due("without a firm, the same", town.vote('i', 10), false);
        Checks.due("without a firm, for more", town.vote('i', 11), true);
        town.pass(1);
        Checks.due("with a firm, for more", town.vote('i', 12), false);
        Checks.due("with a firm, the same", town.vote('i', 11), false);
        Checks.due("with a firm, for less", town.vote('i', 0), true);
        Checks.due("law i", town.law('i'), 0);
        int treasury = town.balance(0);
        town.pass(1);
        Checks.due("no income tax, only the rent", town.balance(0), treasury + 1);
    }

    private static void salesVotes() {
        Hundredward town = new Hundredward();
        town.arrive(0, 50);
        Checks.due("with 50, for less", town.vote('s', 4), false);
        Checks.due("with 50, for more", town.vote('s', 6), true);
        town.leave(0);
        town.arrive(0, 49);
        Checks.due("with 49, for more", town.vote('s', 7), false);
        Checks.due("with 49, the same", town.vote('s', 6), false);
        Checks.due("with 49, for less", town.vote('s', 0), true);
        Checks.due("law s", town.law('s'), 0);
    }

    private static void rentVotes() {
        Hundredward town = Checks.laid("h");
        town.arrive(0, 400);
        town.arrive(0, 399);
        Checks.due("without homes, for less", town.vote('r', 49), false);
        Checks.due("without homes, for more", town.vote('r', 51), true);
        town.pass(1);
        Checks.due("the rent", town.rentOf(0), 44);
        town.leave(1);
        Checks.due("with a home, for more", town.vote('r', 52), false);
        Checks.due("with a home, for less", town.vote('r', 45), true);
        Checks.due("the rent is less anyway", town.rentOf(0), 44);
        Checks.due("with a home, for less again", town.vote('r', 7), true);
        Checks.due("the rent is cut", town.rentOf(0), 7);
        Checks.due("law r", town.law('r'), 7);
        int money = town.balance(100);
        town.pass(1);
        Checks.due("it pays the rent that is cut", town.balance(100), money - 7);
    }

    private static void evenVotes() {
        Hundredward town = new Hundredward();
        Checks.due("nobody votes", town.vote('i', 20), false);
        town.arrive(0, 10);
        town.arrive(0, 90);
        Checks.due("one for, one against", town.vote('s', 9), false);
        Checks.due("the law is as it was", town.law('s'), 5);
        town.arrive(0, 90);
        Checks.due("two for, one against", town.vote('s', 9), true);
        town.leave(1);
        Checks.due("those that left do not vote", town.vote('s', 10), false);
    }
}

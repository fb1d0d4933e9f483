import java.util.NoSuchElementException;
import java.util.function.Supplier;

/** Terms, Exceptions: a call that throws changes nothing, and of several exceptions the first of the list is thrown. */
public final class RefusalTest {
    private interface OfTown {
        Object answer(Hundredward town);
    }

    private static final Class<IndexOutOfBoundsException> OUT = IndexOutOfBoundsException.class;
    private static final Class<IllegalArgumentException> BAD = IllegalArgumentException.class;
    private static final Class<IllegalStateException> STATE = IllegalStateException.class;
    private static final Class<NoSuchElementException> NONE = NoSuchElementException.class;
    private static final int[] BEYOND = {-1, 25, Integer.MIN_VALUE, Integer.MAX_VALUE};

    public static void main(String[] args) {
        ofLand();
        ofPermits();
        ofLaws();
        ofHouseholds();
        ofFirms();
        ofMoney();
        firstOfLand();
        firstOfPeople();
        firstOfMoney();
        Checks.finish();
    }

    /** A town with six firms and twelve households, two of which left and some of which starved, under a flood. */
    private static Hundredward busy() {
        Hundredward town = Towns.large("hfhsh", "hrrrw", "hshsh", ".f.f.", "s..r.");
        town.borrow(300);
        int[] plots = {1, 3, 11, 13, 16, 20};
        for (int i = 0; i < plots.length; i++) {
            town.found(plots[i], 5, 3 + i);
        }
        for (int i = 0; i < 12; i++) {
            town.arrive(i % 4, 130 - 10 * i);
        }
        town.leave(11);
        town.leave(10);
        town.pass(3);
        town.setHeight(0, 4);
        town.setRiver(5);
        town.pass(1);
        return town;
    }

    /** What is done later shows what a refused call might have left behind unseen. */
    private static String later(Hundredward town) {
        StringBuilder text = new StringBuilder();
        town.setRiver(4);
        // Without tolerance, each precedent that should not be there shows: one home is beside 17, and none beside 15.
        town.setTolerance(0);
        for (int plot : new int[] {15, 17, 19, 21, 22}) {
            for (char kind : "fwrhs".toCharArray()) {
                if (town.balance(0) < 40) {
                    town.borrow(40);
                }
                text.append(town.build(plot, kind) ? 'y' : 'n');
                if (town.builtOn(plot) != '.') {
                    town.takeDown(plot);
                }
            }
        }
        text.append(town.vote('i', 11)).append(town.vote('s', 4)).append(town.vote('r', 9));
        text.append(town.setHeight(0, 1)).append(town.setHeight(24, 6)).append(town.setTolerance(2));
        text.append(town.pass(2));
        return text.toString();
    }

    private static Hundredward passed(Hundredward town) {
        later(town);
        return town;
    }

    private static final String BUSY = State.of(RefusalTest::busy);
    private static final String ANSWERS = later(busy());
    private static final String LATER = State.of(() -> passed(busy()));

    /** A town that refused a call. */
    private static Hundredward after(String what, Class<? extends RuntimeException> want, Hundredward town, OfTown call) {
        Checks.throwing(what, want, () -> call.answer(town));
        return town;
    }

    private static void refused(String what, Class<? extends RuntimeException> want, OfTown call) {
        Supplier<Hundredward> made = () -> after(what, want, busy(), call);
        Checks.due("after " + what, State.change(BUSY, State.of(made)), "none");
        Hundredward twice = after(what + " once more", want, made.get(), call);
        Checks.due("answers after " + what, later(twice), ANSWERS);
        Checks.due("later than " + what, State.change(LATER, State.of(() -> passed(made.get()))), "none");
    }

    /** The state of a town of another kind than busy() is not changed by calls that are refused. */
    private static void unchanged(Supplier<Hundredward> made, Class<? extends RuntimeException> want, OfTown... calls) {
        String before = State.of(made);
        String after = State.of(() -> {
            Hundredward town = made.get();
            for (OfTown call : calls) {
                after("refused", want, town, call);
            }
            return town;
        });
        Checks.due("after those", State.change(before, after), "none");
    }

    private static void ofLand() {
        Checks.terms("A method that throws an exception changes nothing.");
        for (int plot : BEYOND) {
            refused("setHeight " + plot, OUT, town -> town.setHeight(plot, 1));
            refused("builtOn " + plot, OUT, town -> town.builtOn(plot));
            refused("nameOf " + plot, OUT, town -> town.nameOf(plot));
            refused("rentOf " + plot, OUT, town -> town.rentOf(plot));
            refused("load " + plot, OUT, town -> town.load(plot));
            refused("hadWater " + plot, OUT, town -> town.hadWater(plot));
            refused("way from " + plot, OUT, town -> town.way(plot, 3));
            refused("way to " + plot, OUT, town -> town.way(3, plot));
        }
        for (int number : new int[] {-1, 10, Integer.MIN_VALUE, Integer.MAX_VALUE}) {
            refused("setHeight to " + number, BAD, town -> town.setHeight(1, number));
        }
        for (int number : new int[] {-1, 11, Integer.MIN_VALUE, Integer.MAX_VALUE}) {
            refused("setRiver " + number, BAD, town -> town.setRiver(number));
        }
        refused("rentOf a road", NONE, town -> town.rentOf(6));
        refused("rentOf a flooded home", NONE, town -> town.rentOf(0));
        refused("way to nowhere", NONE, town -> town.way(5, 24));
        refused("way to a flooded plot", NONE, town -> town.way(5, 0));
    }

    private static void ofPermits() {
        for (int plot : BEYOND) {
            refused("build at " + plot, OUT, town -> town.build(plot, 'f'));
            refused("takeDown at " + plot, OUT, town -> town.takeDown(plot));
        }
        for (char kind : new char[] {'.', 'x', 't', 'F', 0, (char) -1}) {
            refused("build of " + (int) kind, BAD, town -> town.build(15, kind));
        }
        for (char kind : "rhsfw".toCharArray()) {
            refused("build on a home: " + kind, STATE, town -> town.build(2, kind));
            refused("build on a factory: " + kind, STATE, town -> town.build(18, kind));
        }
        refused("takeDown of nothing", STATE, town -> town.takeDown(24));
        refused("takeDown of a home", STATE, town -> town.takeDown(2));
        refused("takeDown of a firm's factory", STATE, town -> town.takeDown(1));
        refused("takeDown of a firm's shop", STATE, town -> town.takeDown(3));
        poor('f');
        poor('r');
    }

    /** A demand that the treasury cannot pay is no refusal that counts, and no precedent. */
    private static void poor(char kind) {
        OfTown demand = of -> of.build(5, kind);
        unchanged(RefusalTest::poorTown, STATE, demand, demand, demand);
        Hundredward town = poorTown();
        for (int i = 0; i < 3; i++) {
            Checks.badState("39 for " + kind, () -> town.build(5, kind));
        }
        town.borrow(200);
        town.setTolerance(0);
        Checks.due("none was a refusal", town.build(23, kind), true);
        Checks.due("none was a precedent", town.build(5, kind), false);
    }

    private static Hundredward poorTown() {
        Hundredward town = Towns.peopled(Checks.laid("hs"), 100);
        town.found(1, 1, 1);
        town.pass(1);
        return Towns.treasury(town, 39);
    }

    private static void ofLaws() {
        for (int number : new int[] {-1, 5, Integer.MIN_VALUE, Integer.MAX_VALUE}) {
            refused("setTolerance " + number, BAD, town -> town.setTolerance(number));
        }
        for (char what : new char[] {'t', 'x', 'I', 0, (char) -1}) {
            refused("vote on " + (int) what, BAD, town -> town.vote(what, 9));
        }
        for (char what : new char[] {'x', 'I', 0, (char) -1}) {
            refused("law of " + (int) what, BAD, town -> town.law(what));
        }
        for (int number : new int[] {-1, 51, Integer.MIN_VALUE, Integer.MAX_VALUE}) {
            refused("vote i " + number, BAD, town -> town.vote('i', number));
            refused("vote s " + number, BAD, town -> town.vote('s', number));
        }
        for (int number : new int[] {-1, 0, 100, Integer.MIN_VALUE, Integer.MAX_VALUE}) {
            refused("vote r " + number, BAD, town -> town.vote('r', number));
        }
    }

    private static void ofHouseholds() {
        for (int number : new int[] {-1, 4, Integer.MIN_VALUE, Integer.MAX_VALUE}) {
            refused("arrive with skill " + number, BAD, town -> town.arrive(number, 1));
        }
        for (int number : new int[] {-1, 1000, Integer.MIN_VALUE, Integer.MAX_VALUE}) {
            refused("arrive with money " + number, BAD, town -> town.arrive(1, number));
        }
        refused("arrive as the thirteenth", STATE, town -> town.arrive(1, 1));
        for (int number : new int[] {-1, 12, Integer.MIN_VALUE, Integer.MAX_VALUE}) {
            refused("leave " + number, OUT, town -> town.leave(number));
            refused("homeOf " + number, OUT, town -> town.homeOf(number));
            refused("firmOf " + number, OUT, town -> town.firmOf(number));
            refused("hungerOf " + number, OUT, town -> town.hungerOf(number));
            refused("costOf " + number, OUT, town -> town.costOf(number));
        }
        refused("leave of one that left", NONE, town -> town.leave(11));
        refused("homeOf one that left", NONE, town -> town.homeOf(11));
        refused("firmOf one that left", NONE, town -> town.firmOf(10));
        refused("hungerOf one that left", NONE, town -> town.hungerOf(10));
        refused("costOf one that left", NONE, town -> town.costOf(11));
    }

    private static void ofFirms() {
        for (int number : BEYOND) {
            refused("found at " + number, OUT, town -> town.found(number, 1, 1));
        }
        for (int number : new int[] {-1, 0, 100, Integer.MIN_VALUE, Integer.MAX_VALUE}) {
            refused("found with wage " + number, BAD, town -> town.found(18, number, 1));
            refused("found with price " + number, BAD, town -> town.found(18, 1, number));
            refused("setPay with wage " + number, BAD, town -> town.setPay(0, number, 1));
            refused("setPay with price " + number, BAD, town -> town.setPay(0, 1, number));
        }
        refused("found as the seventh", STATE, town -> town.found(18, 1, 1));
        refused("found in a home", STATE, town -> town.found(2, 1, 1));
        refused("found with a firm there", STATE, town -> town.found(1, 1, 1));
        for (int number : new int[] {-1, 6, Integer.MIN_VALUE, Integer.MAX_VALUE}) {
            refused("setPay of " + number, OUT, town -> town.setPay(number, 1, 1));
            refused("stockOf " + number, OUT, town -> town.stockOf(number));
            refused("creditOf " + number, OUT, town -> town.creditOf(number));
            refused("workersOf " + number, OUT, town -> town.workersOf(number));
        }
        unchanged(RefusalTest::failedTown, NONE, town -> town.setPay(0, 1, 1), town -> town.stockOf(0),
                town -> town.creditOf(0), town -> town.workersOf(0));
        unchanged(() -> Towns.bank(Checks.laid("s"), 99), STATE, town -> town.found(0, 1, 1));
        Hundredward poor = Towns.bank(Checks.laid("s"), 99);
        Checks.badState("found with 99 in the bank", () -> poor.found(0, 1, 1));
        poor.build(1, 'h');
        poor.pass(1);
        Checks.due("the next one is the first", poor.found(0, 1, 1), 0);
    }

    /** A town whose only firm failed. */
    private static Hundredward failedTown() {
        Hundredward town = Towns.peopled(Checks.laid("hf"), 100);
        town.found(1, 96, 1);
        town.pass(1);
        return town;
    }

    private static void ofMoney() {
        for (int number : new int[] {-1, 0, 1000, Integer.MIN_VALUE, Integer.MAX_VALUE}) {
            refused("borrow " + number, BAD, town -> town.borrow(number));
        }
        refused("borrow more than the bank has", STATE, town -> {
            Checks.due("the bank has less", town.balance(1) < 998, true);
            return town.borrow(998);
        });
        for (int number : new int[] {-1, 0, 11, Integer.MIN_VALUE, Integer.MAX_VALUE}) {
            refused("pass " + number, BAD, town -> town.pass(number));
        }
        for (int number : new int[] {-1, 3, 9, 16, 99, 112, Integer.MIN_VALUE, Integer.MAX_VALUE}) {
            refused("balance " + number, OUT, town -> town.balance(number));
            refused("balanceAnew " + number, OUT, town -> town.balanceAnew(number));
        }
        refused("entry after the last", OUT, town -> town.entry(town.entries(), 0));
        refused("entry before the first", OUT, town -> town.entry(-1, 0));
        refused("entry part 3", OUT, town -> town.entry(0, 3));
        refused("entry part -1", OUT, town -> town.entry(0, -1));
        unchanged(Hundredward::new, ArithmeticException.class, Hundredward::workingShare, Hundredward::meanRent);
    }

    private static void first(String what, Class<? extends RuntimeException> want, OfTown call) {
        Hundredward town = busy();
        Checks.throwing(what, want, () -> call.answer(town));
    }

    private static void firstOfLand() {
        Checks.terms("If several exceptions apply, the exception listed first is thrown.");
        first("setHeight: no plot, out of range", OUT, town -> town.setHeight(25, 10));
        first("setHeight: no plot, out of range below", OUT, town -> town.setHeight(-1, -1));
        first("build: no plot, no kind", OUT, town -> town.build(25, 'x'));
        first("build: no kind, something built", BAD, town -> town.build(2, 'x'));
        first("rentOf: no plot", OUT, town -> town.rentOf(25));
        first("takeDown: no plot", OUT, town -> town.takeDown(25));
        first("way: no plot, no way", OUT, town -> town.way(0, 25));
        first("way: no plot before a flooded one", OUT, town -> town.way(25, 0));
        first("vote: no matter, no number", BAD, town -> town.vote('x', 100));
        Hundredward poor = Towns.treasury(new Hundredward(), 39);
        Checks.outOfBounds("build: no plot, no money", () -> poor.build(25, 'r'));
        Checks.badArgument("build: no kind, no money", () -> poor.build(0, 'x'));
        Checks.badState("build: no money", () -> poor.build(0, 'r'));
    }

    private static void firstOfPeople() {
        first("arrive: out of range, 12 came", BAD, town -> town.arrive(4, 0));
        first("arrive: money out of range, 12 came", BAD, town -> town.arrive(0, -1));
        first("found: no plot, out of range", OUT, town -> town.found(25, 0, 1));
        first("found: no plot, 6 were founded", OUT, town -> town.found(-1, 1, 1));
        first("found: out of range, 6 were founded", BAD, town -> town.found(18, 0, 1));
        first("found: out of range, a home", BAD, town -> town.found(2, 1, 100));
        first("setPay: no firm, out of range", OUT, town -> town.setPay(6, 0, 0));
        Hundredward failed = failedTown();
        Checks.noElement("setPay: not there, out of range", () -> failed.setPay(0, 0, 100));
        Checks.outOfBounds("setPay: never there, out of range", () -> failed.setPay(1, 0, 100));
    }

    private static void firstOfMoney() {
        Hundredward poor = Towns.bank(new Hundredward(), 0);
        Checks.badArgument("borrow: out of range, the bank has not so much", () -> poor.borrow(1000));
        Checks.badState("borrow: the bank has not so much", () -> poor.borrow(1));
        first("entry: neither an entry nor a number", OUT, town -> town.entry(-1, 3));
    }
}

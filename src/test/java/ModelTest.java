import java.util.ArrayList;
import java.util.List;
import java.util.Random;

/** Runs of drawn calls, the same on the class and on the plain model of the document; all answers have to agree. */
public final class ModelTest {
    private static final int RUNS = 300;
    private static final int CALLS = 60;
    private static final int MOST_ROADS = 13;
    private static final int LONG_RUNS = 12;
    private static final int LONG_PASSES = 25;
    private static final int MOST_CALLS = 512;

    private final Random random;
    private final String run;
    private Hundredward town = new Hundredward();
    private final Model model = new Model();
    // The calls that change the town, to make it again when it has been used for as many calls as are promised.
    private final List<Checks.Call> changes = new ArrayList<>();
    private int calls = 0;
    private int compared = 0;
    private int roads = 0;

    private ModelTest(int seed) {
        random = new Random(seed);
        run = "run " + seed + ": ";
    }

    public static void main(String[] args) {
        int runs = args.length > 0 ? Integer.parseInt(args[0]) : RUNS;
        for (int seed = 0; seed < runs; seed++) {
            ModelTest test = new ModelTest(seed);
            test.lay();
            for (int i = 0; i < CALLS; i++) {
                test.call();
            }
            test.compareAtLast();
        }
        for (int seed = 0; seed < LONG_RUNS; seed++) {
            new ModelTest(seed).thrive();
        }
        Checks.finish();
    }

    private static Object answer(Checks.Call call) {
        try {
            return call.answer();
        } catch (RuntimeException e) {
            return e.getClass();
        }
    }

    private void same(String what, Checks.Call got, Checks.Call want) {
        if (calls >= MOST_CALLS) {
            town = new Hundredward();
            for (Checks.Call change : changes) {
                answer(change);
            }
            calls = changes.size();
        }
        calls++;
        Checks.due(run + what, answer(got), answer(want));
    }

    private void changed(String what, Checks.Call got, Checks.Call want) {
        same(what, got, want);
        changes.add(got);
    }

    private int draw(int least, int most) {
        return least + random.nextInt(most - least + 1);
    }

    /** Mostly a number that fits, now and then one from beyond an edge. */
    private int drawOver(int least, int most) {
        int kind = random.nextInt(40);
        if (kind == 0) {
            return least - 1;
        }
        return kind == 1 ? most + 1 : draw(least, most);
    }

    private void lay() {
        for (int i = draw(0, 1); i > 0; i--) {
            borrow(draw(300, 900));
        }
        String kinds = random.nextBoolean() ? "rrrrhhhsffw" : "rrrrrrhhhhsfw";
        for (int i = draw(6, 22); i > 0; i--) {
            build(draw(0, 24), kinds.charAt(random.nextInt(kinds.length())));
        }
        for (int i = 0; i < 25; i++) {
            if (model.built[i] == 's' || model.built[i] == 'f') {
                found(i, draw(1, 30), draw(1, 15));
            }
        }
        for (int i = draw(1, 10); i > 0; i--) {
            arrive(draw(0, 3), draw(0, 300));
        }
    }

    /** A town with work for all, low taxes and low rents, which lives long, so that firms repay and stocks fill up. */
    private void thrive() {
        String kinds = "hfhfhrsrsrhshfhrrrrrhwhhh";
        for (int i = 0; i < 25; i++) {
            borrow(40);
            build(i, kinds.charAt(i));
        }
        for (int i = 0; i < 12; i++) {
            arrive(3 - i / 4, 999);
        }
        int wage = draw(1, 4);
        int price = draw(1, 6);
        for (int plot : new int[] {1, 3, 13, 6, 8, 11}) {
            found(plot, wage + (plot == 13 ? 1 : 0), price + (kinds.charAt(plot) == 's' ? draw(0, 4) : 0));
        }
        for (int i = 0; i < LONG_PASSES && model.households() > 0; i++) {
            for (char what : "isr".toCharArray()) {
                int to = what == 'r' ? 1 : 0;
                changed("vote " + what, () -> town.vote(what, to), () -> model.vote(what, to));
            }
            for (int firm = 0; firm < 6; firm++) {
                adjust(firm, wage, price);
            }
            pass(10);
        }
        compareAtLast();
    }

    /** Dearer goods for a poor firm, and a higher wage from a rich one. */
    private void adjust(int firm, int wage, int price) {
        int money = model.sum(10 + firm);
        int pay = wage + (money > 400 ? 3 : 0);
        int asked = price + (firm < 3 ? 0 : 2) + (money < 150 ? 6 : 0);
        changed("setPay " + firm, () -> town.setPay(firm, pay, asked), () -> model.setPay(firm, pay, asked));
    }

    private void borrow(int amount) {
        changed("borrow " + amount, () -> town.borrow(amount), () -> model.borrow(amount));
    }

    private void build(int plot, char kind) {
        if (kind == 'r' && roads >= MOST_ROADS) {
            return;
        }
        roads += kind == 'r' ? 1 : 0;
        changed("build " + plot + kind, () -> town.build(plot, kind), () -> model.build(plot, kind));
    }

    private void found(int plot, int wage, int price) {
        changed("found " + plot, () -> town.found(plot, wage, price), () -> model.found(plot, wage, price));
    }

    private void arrive(int skill, int money) {
        changed("arrive " + skill + " " + money, () -> town.arrive(skill, money), () -> model.arrive(skill, money));
    }

    private void pass(int days) {
        changed("pass " + days, () -> town.pass(days), () -> model.pass(days));
        compareAll();
    }

    private void call() {
        int kind = random.nextInt(30);
        if (kind < 6) {
            pass(drawOver(1, random.nextInt(8) == 0 ? 10 : 2));
        } else if (kind < 10) {
            build(drawOver(0, 24), "rhsfwrhhx.".charAt(random.nextInt(10)));
        } else if (kind < 12) {
            int plot = drawOver(0, 24);
            changed("takeDown " + plot, () -> town.takeDown(plot), () -> model.takeDown(plot));
        } else if (kind < 15) {
            arrive(drawOver(0, 3), drawOver(0, random.nextInt(4) == 0 ? 999 : 150));
        } else if (kind < 17) {
            found(drawOver(0, 24), drawOver(1, random.nextBoolean() ? 99 : 20), drawOver(1, 12));
        } else {
            callMore(kind);
        }
    }

    private void callMore(int kind) {
        int a = drawOver(0, 12);
        int b = drawOver(1, 50);
        int c = drawOver(1, 20);
        if (kind < 19) {
            int level = random.nextBoolean() ? 0 : drawOver(0, 10);
            changed("setRiver " + level, () -> town.setRiver(level), () -> model.setRiver(level));
        } else if (kind < 21) {
            int plot = drawOver(0, 24);
            int height = drawOver(0, 9);
            changed("setHeight " + plot + " " + height, () -> town.setHeight(plot, height),
                    () -> model.setHeight(plot, height));
        } else if (kind < 22) {
            int to = drawOver(0, 4);
            changed("setTolerance " + to, () -> town.setTolerance(to), () -> model.setTolerance(to));
        } else if (kind < 26) {
            char what = "isrisrx".charAt(random.nextInt(7));
            int to = random.nextInt(3) == 0 ? 0 : b;
            changed("vote " + what + to, () -> town.vote(what, to), () -> model.vote(what, to));
        } else if (kind < 27) {
            int who = draw(0, 30);
            changed("leave " + who, () -> town.leave(who), () -> model.leave(who));
        } else if (kind < 29) {
            changed("setPay " + a, () -> town.setPay(a, b, c), () -> model.setPay(a, b, c));
        } else {
            borrow(drawOver(1, 999));
        }
    }

    /** Once more all of it, with the journal from its first entry on. */
    private void compareAtLast() {
        compared = 0;
        compareAll();
    }

    private void compareAll() {
        for (int i = -1; i <= 25; i++) {
            comparePlot(i);
        }
        for (int i = -1; i <= 13; i++) {
            compareHousehold(i);
        }
        for (int i = -1; i <= 7; i++) {
            compareFirm(i);
        }
        for (int i = -2; i <= 113; i++) {
            int account = i;
            same("balance " + i, () -> town.balance(account), () -> model.balance(account));
            same("balanceAnew " + i, () -> town.balanceAnew(account), () -> model.balance(account));
        }
        for (char what : "isrtxw".toCharArray()) {
            same("law " + what, () -> town.law(what), () -> model.law(what));
        }
        compareTown();
        compareJournal();
    }

    private void comparePlot(int i) {
        same("builtOn " + i, () -> town.builtOn(i), () -> model.builtOn(i));
        same("nameOf " + i, () -> town.nameOf(i), () -> model.nameOf(i));
        same("rentOf " + i, () -> town.rentOf(i), () -> model.rentOf(i));
        same("load " + i, () -> town.load(i), () -> model.load(i));
        same("hadWater " + i, () -> town.hadWater(i), () -> model.hadWater(i));
        int other = drawOver(0, 24);
        same("way " + i + " " + other, () -> town.way(i, other), () -> model.way(i, other));
    }

    private void compareHousehold(int i) {
        same("homeOf " + i, () -> town.homeOf(i), () -> model.household(i)[Model.HOME]);
        same("firmOf " + i, () -> town.firmOf(i), () -> model.household(i)[Model.FIRM]);
        same("hungerOf " + i, () -> town.hungerOf(i), () -> model.household(i)[Model.HUNGER]);
        same("costOf " + i, () -> town.costOf(i), () -> model.household(i)[Model.COST]);
    }

    private void compareFirm(int i) {
        same("stockOf " + i, () -> town.stockOf(i), () -> model.firm(i)[Model.STOCK]);
        same("creditOf " + i, () -> town.creditOf(i), () -> model.firm(i)[Model.CREDIT]);
        same("workersOf " + i, () -> town.workersOf(i), () -> model.firm(i) == null ? -1 : model.workers(i));
    }

    private void compareTown() {
        same("entries", () -> town.entries(), model.journal::size);
        same("bonds", () -> town.bonds(), () -> model.bonds);
        same("failures", () -> town.failures(), () -> model.failures);
        same("households", () -> town.households(), model::households);
        same("money", () -> town.money(), model::money);
        same("workingShare", () -> town.workingShare(), model::workingShare);
        same("meanRent", () -> town.meanRent(), model::meanRent);
        same("isBalanced", () -> town.isBalanced(), () -> true);
    }

    /** The entries that came since the last time, and those beyond both ends. */
    private void compareJournal() {
        compareEntry(-1);
        for (int i = compared; i <= model.journal.size(); i++) {
            compareEntry(i);
        }
        compared = model.journal.size();
    }

    private void compareEntry(int index) {
        for (int what = -1; what <= 3; what++) {
            int part = what;
            same("entry " + index + " " + what, () -> town.entry(index, part), () -> model.entry(index, part));
        }
    }
}

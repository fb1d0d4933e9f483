import java.util.NoSuchElementException;

/** A town that grows by its own trade. */
public final class Hundredward {
    private static final int MOST_HEIGHT = 9;
    private static final int MOST_RIVER = 10;
    private static final int MOST_TOLERANCE = 4;
    private static final int MOST_SKILL = 3;
    private static final int MOST_ARRIVING = 999;
    private static final int MOST_BORROWED = 999;
    private static final int MOST_PAY = 99;
    private static final int MOST_DAYS = 10;
    private static final int BUILDING_COST = 40;
    private static final int FIRST_CREDIT = 100;

    private final Town town = new Town();

    public Hundredward() {
    }

    // ---- land and law

    public int setHeight(int plot, int height) throws IndexOutOfBoundsException, IllegalArgumentException {
        Plot on = plotOf(plot);
        requireRange(height, 0, MOST_HEIGHT);
        int before = on.height;
        on.height = height;
        return before;
    }

    public int setRiver(int level) throws IllegalArgumentException {
        requireRange(level, 0, MOST_RIVER);
        town.land.river = level;
        return town.land.countFlooded();
    }

    public boolean build(int plot, char kind)
            throws IndexOutOfBoundsException, IllegalArgumentException, IllegalStateException {
        Plot on = plotOf(plot);
        if (!Permits.isKind(kind)) {
            throw new IllegalArgumentException("no such kind");
        }
        if (on.kind != Plot.NOTHING || !town.book.has(Book.TREASURY, BUILDING_COST)) {
            throw new IllegalStateException("built on, or no money");
        }
        if (!town.permits.decide(kind, Permits.objectionsTo(kind, on))) {
            return false;
        }
        town.book.pay(Book.TREASURY, Book.BUILDERS, BUILDING_COST);
        on.kind = kind;
        return true;
    }

    public char takeDown(int plot) throws IndexOutOfBoundsException, IllegalStateException {
        Plot on = plotOf(plot);
        if (on.kind == Plot.NOTHING || on.tenant != null || on.firm != null) {
            throw new IllegalStateException("nothing built, or in use");
        }
        char before = on.kind;
        on.kind = Plot.NOTHING;
        return before;
    }

    public int setTolerance(int tolerance) throws IllegalArgumentException {
        requireRange(tolerance, 0, MOST_TOLERANCE);
        int before = town.permits.tolerance;
        town.permits.tolerance = tolerance;
        return before;
    }

    public boolean vote(char what, int number) throws IllegalArgumentException {
        if (!Laws.isMatter(what)) {
            throw new IllegalArgumentException("no such matter");
        }
        requireRange(number, Laws.leastOf(what), Laws.mostOf(what));
        if (!Laws.isCarried(town, what, number)) {
            return false;
        }
        town.laws.put(what, number);
        town.cutRents();
        return true;
    }

    public int law(char what) throws IllegalArgumentException {
        if (what == Permits.MATTER) {
            return town.permits.tolerance;
        }
        if (!Laws.isMatter(what)) {
            throw new IllegalArgumentException("no such matter");
        }
        return town.laws.numberOf(what);
    }

    public char builtOn(int plot) throws IndexOutOfBoundsException {
        return plotOf(plot).kind;
    }

    public int nameOf(int plot) throws IndexOutOfBoundsException {
        return plotOf(plot).name;
    }

    public int rentOf(int plot) throws IndexOutOfBoundsException, NoSuchElementException {
        Plot on = plotOf(plot);
        if (on.tenant == null) {
            throw new NoSuchElementException("nobody has a home there");
        }
        return on.rent;
    }

    public int load(int plot) throws IndexOutOfBoundsException {
        return plotOf(plot).load;
    }

    public boolean hadWater(int plot) throws IndexOutOfBoundsException {
        return plotOf(plot).water;
    }

    public int way(int plot, int other) throws IndexOutOfBoundsException, NoSuchElementException {
        Plot from = plotOf(plot);
        Plot to = plotOf(other);
        town.land.spreadFrom(from);
        if (to.roads == Plot.NO_WAY) {
            throw new NoSuchElementException("no way");
        }
        return to.roads;
    }

    // ---- households and firms

    public int arrive(int skill, int money) throws IllegalArgumentException, IllegalStateException {
        requireRange(skill, 0, MOST_SKILL);
        requireRange(money, 0, MOST_ARRIVING);
        Household next = town.nextHousehold();
        if (next == null) {
            throw new IllegalStateException("enough households came");
        }
        town.welcome(next, skill, money);
        return next.number;
    }

    public int leave(int household) throws IndexOutOfBoundsException, NoSuchElementException {
        Household who = householdOf(household);
        int taken = town.book.balanceOf(who.account);
        town.sendAway(who);
        return taken;
    }

    public int found(int plot, int wage, int price)
            throws IndexOutOfBoundsException, IllegalArgumentException, IllegalStateException {
        Plot on = plotOf(plot);
        requireRange(wage, 1, MOST_PAY);
        requireRange(price, 1, MOST_PAY);
        Firm next = town.nextFirm();
        if (!on.isForFirms() || on.firm != null || next == null || !town.book.has(Book.BANK, FIRST_CREDIT)) {
            throw new IllegalStateException("no place, no number or no money for a firm");
        }
        town.open(next, on, wage, price);
        town.lend(next, FIRST_CREDIT);
        return next.number;
    }

    public int setPay(int firm, int wage, int price)
            throws IndexOutOfBoundsException, NoSuchElementException, IllegalArgumentException {
        Firm which = firmNumbered(firm);
        requireRange(wage, 1, MOST_PAY);
        requireRange(price, 1, MOST_PAY);
        int before = which.wage;
        which.wage = wage;
        which.price = price;
        return before;
    }

    public int homeOf(int household) throws IndexOutOfBoundsException, NoSuchElementException {
        Plot home = householdOf(household).home;
        return home == null ? -1 : home.number;
    }

    public int firmOf(int household) throws IndexOutOfBoundsException, NoSuchElementException {
        Firm firm = householdOf(household).firm;
        return firm == null ? -1 : firm.number;
    }

    public int hungerOf(int household) throws IndexOutOfBoundsException, NoSuchElementException {
        return householdOf(household).hunger;
    }

    public int costOf(int household) throws IndexOutOfBoundsException, NoSuchElementException {
        return householdOf(household).cost;
    }

    public int stockOf(int firm) throws IndexOutOfBoundsException, NoSuchElementException {
        return firmNumbered(firm).stock;
    }

    public int creditOf(int firm) throws IndexOutOfBoundsException, NoSuchElementException {
        return firmNumbered(firm).credit;
    }

    public int workersOf(int firm) throws IndexOutOfBoundsException, NoSuchElementException {
        return firmNumbered(firm).workers;
    }

    // ---- money and days

    public int borrow(int amount) throws IllegalArgumentException, IllegalStateException {
        requireRange(amount, 1, MOST_BORROWED);
        if (!town.book.has(Book.BANK, amount)) {
            throw new IllegalStateException("the bank has not so much");
        }
        town.book.pay(Book.BANK, Book.TREASURY, amount);
        town.bonds += amount;
        return town.bonds;
    }

    public int pass(int days) throws IllegalArgumentException {
        requireRange(days, 1, MOST_DAYS);
        for (int i = 0; i < days; i++) {
            Day.live(town);
        }
        return town.day;
    }

    public int balance(int account) throws IndexOutOfBoundsException {
        requireAccount(account);
        return town.book.balanceOf(account);
    }

    public int balanceAnew(int account) throws IndexOutOfBoundsException {
        requireAccount(account);
        return town.book.sumOf(account);
    }

    public int entries() {
        return town.book.count;
    }

    public int entry(int index, int what) throws IndexOutOfBoundsException {
        if (!town.book.holds(index) || what < 0 || what > 2) {
            throw new IndexOutOfBoundsException("no such entry or number");
        }
        if (what == 0) {
            return town.book.payerIn(index);
        }
        return what == 1 ? town.book.payeeIn(index) : town.book.amountIn(index);
    }

    public int bonds() {
        return town.bonds;
    }

    public int failures() {
        return town.failures;
    }

    public int households() {
        return town.countHouseholds();
    }

    public long money() {
        return town.book.total();
    }

    public float workingShare() throws ArithmeticException {
        int all = town.countHouseholds();
        if (all == 0) {
            throw new ArithmeticException("no households");
        }
        return (float) town.countEmployed() / (float) all;
    }

    public double meanRent() throws ArithmeticException {
        int homes = town.countTenants();
        if (homes == 0) {
            throw new ArithmeticException("nobody has a home");
        }
        return (double) town.sumOfRents() / (double) homes;
    }

    public boolean isBalanced() {
        return town.book.isSumOfJournal() && town.areGoodsBalanced() && Routes.areSettled(town);
    }

    // ---- what the calls above ask first

    private Plot plotOf(int number) {
        Plot plot = town.land.at(number);
        if (plot == null) {
            throw new IndexOutOfBoundsException("no such plot");
        }
        return plot;
    }

    private Household householdOf(int number) {
        Household household = town.householdAt(number);
        if (household == null) {
            throw new IndexOutOfBoundsException("there never was such a household");
        }
        if (!household.present) {
            throw new NoSuchElementException("it is not there any more");
        }
        return household;
    }

    private Firm firmNumbered(int number) {
        Firm firm = town.firmAt(number);
        if (firm == null) {
            throw new IndexOutOfBoundsException("there never was such a firm");
        }
        if (!firm.present) {
            throw new NoSuchElementException("it is not there any more");
        }
        return firm;
    }

    private void requireAccount(int account) {
        if (!town.hasAccount(account)) {
            throw new IndexOutOfBoundsException("there never was such an account");
        }
    }

    private static void requireRange(int number, int least, int most) {
        if (number < least || number > most) {
            throw new IllegalArgumentException("out of range");
        }
    }

    /** A plot: the ground, what is built on it, who is in it, and what the last day left on it. */
    private static final class Plot {
        static final char NOTHING = '.';
        static final char ROAD = 'r';
        static final char HOME = 'h';
        static final char SHOP = 's';
        static final char FACTORY = 'f';
        static final char WATERWORKS = 'w';
        static final int NO_WAY = -1;
        static final int BEST_NAME = 9;

        final int number;
        // By rising numbers, so that the first fitting one is the lowest one; null beyond the edge.
        final Plot[] sides = new Plot[4];
        int height = 5;
        int name = 5;
        char kind = NOTHING;
        Household tenant;
        int rent;
        Firm firm;
        int load;
        boolean water;
        // Kept from the last day's routes, as the roads may be others by now.
        boolean wasOpen;
        // What the latest search found, for this search alone.
        int roads;
        int step;
        int reach;
        boolean done;

        Plot(int number) {
            this.number = number;
        }

        boolean isForFirms() {
            return kind == SHOP || kind == FACTORY;
        }

        boolean takesWater() {
            return kind == HOME || isForFirms();
        }

        boolean isBeside(Plot other) {
            for (Plot side : sides) {
                if (side != null && side == other) {
                    return true;
                }
            }
            return false;
        }

        void changeName(int by) {
            name = Math.max(0, Math.min(BEST_NAME, name + by));
        }
    }

    /** All plots, the river, and the fewest roads between plots. */
    private static final class Land {
        static final int PLOTS = 25;
        static final int ROW = 5;

        final Plot[] plots = new Plot[PLOTS];
        private final Plot[] queue = new Plot[PLOTS];
        int river;

        Land() {
            for (int i = 0; i < plots.length; i++) {
                plots[i] = new Plot(i);
            }
            for (Plot plot : plots) {
                int column = plot.number % ROW;
                plot.sides[0] = at(plot.number - ROW);
                plot.sides[1] = column > 0 ? at(plot.number - 1) : null;
                plot.sides[2] = column < ROW - 1 ? at(plot.number + 1) : null;
                plot.sides[3] = at(plot.number + ROW);
            }
        }

        Plot at(int number) {
            return number >= 0 && number < plots.length ? plots[number] : null;
        }

        boolean isFlooded(Plot plot) {
            return plot.height < river;
        }

        boolean isOpenRoad(Plot plot) {
            return plot.kind == Plot.ROAD && !isFlooded(plot);
        }

        int countFlooded() {
            int count = 0;
            for (Plot plot : plots) {
                if (isFlooded(plot)) {
                    count++;
                }
            }
            return count;
        }

        /** Puts the fewest roads of a way from this plot into each plot's roads. */
        void spreadFrom(Plot start) {
            for (Plot plot : plots) {
                plot.roads = Plot.NO_WAY;
            }
            if (isFlooded(start)) {
                return;
            }
            start.roads = 0;
            queue[0] = start;
            int tail = 1;
            for (int head = 0; head < tail && head < queue.length; head++) {
                Plot at = queue[head];
                if (at == null) {
                    break;
                }
                // The start is no road of its own ways, even if it is one.
                tail = spreadOn(at, at == start ? 0 : at.roads + 1, tail);
            }
        }

        private int spreadOn(Plot at, int roads, int tail) {
            int end = tail;
            for (Plot side : at.sides) {
                if (side == null || side.roads != Plot.NO_WAY || isFlooded(side)) {
                    continue;
                }
                side.roads = roads;
                if (side.kind == Plot.ROAD && end >= 0 && end < queue.length) {
                    queue[end] = side;
                    end++;
                }
            }
            return end;
        }
    }

    /** A household; those that have not come yet wait as rows. */
    private static final class Household {
        static final int NO_WORKER = -1;
        static final int NO_ROUTE = -1;

        final int number;
        final int account;
        boolean present;
        int skill;
        Plot home;
        Firm firm;
        int hunger;
        // The last day's way to work: its ends, its roads as bits by their numbers, and its cost.
        Plot start;
        Plot goal;
        int route = NO_ROUTE;
        int cost = NO_WORKER;

        Household(int number) {
            this.number = number;
            this.account = Book.FIRST_HOUSEHOLD + number;
        }

        boolean isWorker() {
            return start != null && goal != null;
        }

        boolean goesOver(Plot plot) {
            return route != NO_ROUTE && ((route >> plot.number) & 1) == 1;
        }
    }

    /** A firm; those that are not founded yet wait as rows. */
    private static final class Firm {
        static final int FACTORY_JOBS = 3;
        static final int SHOP_JOBS = 1;

        final int number;
        final int account;
        boolean present;
        Plot plot;
        int wage;
        int price;
        int credit;
        int stock;
        int workers;
        boolean worked;

        Firm(int number) {
            this.number = number;
            this.account = Book.FIRST_FIRM + number;
        }

        boolean isFactory() {
            return present && plot != null && plot.kind == Plot.FACTORY;
        }

        boolean isShop() {
            return present && plot != null && plot.kind == Plot.SHOP;
        }

        boolean hasFreeJob() {
            if (isFactory()) {
                return workers < FACTORY_JOBS;
            }
            return isShop() && workers < SHOP_JOBS;
        }

        boolean canBeReached() {
            return present && plot != null && plot.roads != Plot.NO_WAY;
        }
    }

    /** The accounts and the journal. */
    private static final class Book {
        static final int OUTSIDE = -1;
        static final int TREASURY = 0;
        static final int BANK = 1;
        static final int BUILDERS = 2;
        static final int FIRST_FIRM = 10;
        static final int FIRST_HOUSEHOLD = 100;
        private static final int ACCOUNTS = FIRST_HOUSEHOLD + Town.MOST_HOUSEHOLDS;
        // 512 calls of ten days with at most 97 entries a day stay below.
        private static final int MOST_ENTRIES = 1 << 19;
        private static final int FIRST_ENTRIES = 256;
        private static final int PARTY_BITS = 7;
        private static final int AMOUNT_BITS = 14;
        private static final int PARTY_MASK = (1 << PARTY_BITS) - 1;
        private static final int AMOUNT_MASK = (1 << AMOUNT_BITS) - 1;

        private final int[] balances = new int[ACCOUNTS];
        private final int[] sums = new int[ACCOUNTS];
        // One number an entry, to keep a long run small: no money beyond 2500 and 12 times 999 is ever made,
        // so that an amount fits its bits, and an account fits those left.
        private int[] journal = new int[FIRST_ENTRIES];
        int count;

        Book() {
            pay(OUTSIDE, BANK, 2000);
            pay(OUTSIDE, TREASURY, 500);
        }

        int balanceOf(int account) {
            return account >= 0 && account < balances.length ? balances[account] : 0;
        }

        boolean has(int account, int amount) {
            return balanceOf(account) >= amount;
        }

        void pay(int from, int to, int amount) {
            if (amount <= 0) {
                return;
            }
            addTo(balances, from, -amount);
            addTo(balances, to, amount);
            record((((from + 1) << PARTY_BITS) | (to + 1)) << AMOUNT_BITS | amount);
        }

        private static void addTo(int[] accounts, int account, int amount) {
            if (account >= 0 && account < accounts.length) {
                accounts[account] += amount;
            }
        }

        private void record(int entry) {
            if (count >= journal.length && journal.length < MOST_ENTRIES) {
                int[] longer = new int[journal.length * 2];
                System.arraycopy(journal, 0, longer, 0, journal.length);
                journal = longer;
            }
            if (count >= 0 && count < journal.length) {
                journal[count] = entry;
                count++;
            }
        }

        boolean holds(int index) {
            return index >= 0 && index < count && index < journal.length;
        }

        int payerIn(int index) {
            return holds(index) ? ((journal[index] >> (PARTY_BITS + AMOUNT_BITS)) & PARTY_MASK) - 1 : OUTSIDE;
        }

        int payeeIn(int index) {
            return holds(index) ? ((journal[index] >> AMOUNT_BITS) & PARTY_MASK) - 1 : OUTSIDE;
        }

        int amountIn(int index) {
            return holds(index) ? journal[index] & AMOUNT_MASK : 0;
        }

        int sumOf(int account) {
            sumUp();
            return account >= 0 && account < sums.length ? sums[account] : 0;
        }

        private void sumUp() {
            for (int i = 0; i < sums.length; i++) {
                sums[i] = 0;
            }
            for (int i = 0; i < count; i++) {
                addTo(sums, payerIn(i), -amountIn(i));
                addTo(sums, payeeIn(i), amountIn(i));
            }
        }

        boolean isSumOfJournal() {
            sumUp();
            for (int i = 0; i < balances.length && i < sums.length; i++) {
                if (balances[i] != sums[i]) {
                    return false;
                }
            }
            return true;
        }

        long total() {
            long all = 0;
            for (int balance : balances) {
                all += balance;
            }
            return all;
        }
    }

    /** Whether a building is permitted, and what earlier permits and refusals do to the next. */
    private static final class Permits {
        static final char MATTER = 't';
        private static final String KINDS = "rhsfw";

        // For each kind, how often it was built over objections, less how often it was refused.
        private final int[] precedents = new int[5];
        int tolerance = 1;

        static boolean isKind(char kind) {
            return KINDS.indexOf(kind) >= 0;
        }

        static int objectionsTo(char kind, Plot plot) {
            int objections = 0;
            for (Plot side : plot.sides) {
                if (side != null && side.tenant != null && minds(side.tenant, kind)) {
                    objections++;
                }
            }
            return objections;
        }

        private static boolean minds(Household household, char kind) {
            if (kind == Plot.ROAD) {
                return household.firm != null;
            }
            return kind == Plot.FACTORY || kind == Plot.WATERWORKS;
        }

        /** Answers a demand, and keeps the answer as a precedent. */
        boolean decide(char kind, int objections) {
            int index = KINDS.indexOf(kind);
            if (index < 0 || index >= precedents.length) {
                return false;
            }
            // Less than 0 is exceeded by no objections, too.
            if (objections > tolerance + precedents[index]) {
                precedents[index]--;
                return false;
            }
            if (objections > 0) {
                precedents[index]++;
            }
            return true;
        }
    }

    /** Both taxes and the greatest rent, and the votes on them. */
    private static final class Laws {
        static final char INCOME = 'i';
        static final char SALES = 's';
        static final char RENT = 'r';
        private static final int LITTLE_MONEY = 50;

        int incomeTax = 10;
        int salesTax = 5;
        int greatestRent = 50;

        static boolean isMatter(char what) {
            return what == INCOME || what == SALES || what == RENT;
        }

        static int leastOf(char what) {
            return what == RENT ? 1 : 0;
        }

        static int mostOf(char what) {
            return what == RENT ? 99 : 50;
        }

        int numberOf(char what) {
            if (what == RENT) {
                return greatestRent;
            }
            return what == INCOME ? incomeTax : salesTax;
        }

        void put(char what, int number) {
            if (what == RENT) {
                greatestRent = number;
            } else if (what == INCOME) {
                incomeTax = number;
            } else {
                salesTax = number;
            }
        }

        void failTown() {
            greatestRent = 50;
            incomeTax = 20;
            salesTax = 20;
        }

        static boolean isCarried(Town town, char what, int number) {
            int lead = 0;
            for (Household household : town.people) {
                if (household.present) {
                    lead += isFor(town, household, what, number) ? 1 : -1;
                }
            }
            return lead > 0;
        }

        private static boolean isFor(Town town, Household household, char what, int number) {
            int now = town.laws.numberOf(what);
            if (number == now) {
                return false;
            }
            return wantsLess(town, household, what) == (number < now);
        }

        private static boolean wantsLess(Town town, Household household, char what) {
            if (what == RENT) {
                return household.home != null;
            }
            if (what == INCOME) {
                return household.firm != null;
            }
            return !town.book.has(household.account, LITTLE_MONEY);
        }
    }

    /** All that stands, and the steps that keep its parts in agreement with one another. */
    private static final class Town {
        static final int MOST_HOUSEHOLDS = 12;
        static final int MOST_FIRMS = 6;

        final Land land = new Land();
        final Book book = new Book();
        final Permits permits = new Permits();
        final Laws laws = new Laws();
        final Household[] people = new Household[MOST_HOUSEHOLDS];
        final Firm[] firms = new Firm[MOST_FIRMS];
        private int came;
        private int founded;
        int bonds;
        int failures;
        int day;
        // The goods' own book.
        int made;
        int sold;
        int lost;

        Town() {
            for (int i = 0; i < people.length; i++) {
                people[i] = new Household(i);
            }
            for (int i = 0; i < firms.length; i++) {
                firms[i] = new Firm(i);
            }
        }

        Household nextHousehold() {
            return came >= 0 && came < people.length ? people[came] : null;
        }

        Household householdAt(int number) {
            return number >= 0 && number < came && number < people.length ? people[number] : null;
        }

        Firm nextFirm() {
            return founded >= 0 && founded < firms.length ? firms[founded] : null;
        }

        Firm firmAt(int number) {
            return number >= 0 && number < founded && number < firms.length ? firms[number] : null;
        }

        boolean hasAccount(int account) {
            if (account >= Book.FIRST_HOUSEHOLD) {
                return account - Book.FIRST_HOUSEHOLD < came;
            }
            if (account >= Book.FIRST_FIRM) {
                return account - Book.FIRST_FIRM < founded;
            }
            return account >= Book.TREASURY && account <= Book.BUILDERS;
        }

        void welcome(Household household, int skill, int money) {
            household.skill = skill;
            household.present = true;
            came++;
            book.pay(Book.OUTSIDE, household.account, money);
        }

        void sendAway(Household household) {
            moveOut(household);
            book.pay(household.account, Book.OUTSIDE, book.balanceOf(household.account));
            household.present = false;
        }

        void moveIn(Household household, Plot home, int rent) {
            household.home = home;
            home.tenant = household;
            home.rent = rent;
        }

        void moveOut(Household household) {
            Plot home = household.home;
            if (home != null) {
                home.tenant = null;
                home.rent = 0;
            }
            household.home = null;
            loseJob(household);
        }

        void takeJob(Household household, Firm firm) {
            household.firm = firm;
            firm.workers++;
        }

        void loseJob(Household household) {
            Firm firm = household.firm;
            if (firm != null) {
                firm.workers--;
            }
            household.firm = null;
        }

        void open(Firm firm, Plot plot, int wage, int price) {
            firm.present = true;
            firm.plot = plot;
            firm.wage = wage;
            firm.price = price;
            plot.firm = firm;
            founded++;
        }

        void lend(Firm firm, int amount) {
            book.pay(Book.BANK, firm.account, amount);
            firm.credit += amount;
        }

        void close(Firm firm) {
            book.pay(firm.account, Book.BANK, book.balanceOf(firm.account));
            lost += firm.stock;
            firm.stock = 0;
            firm.credit = 0;
            for (Household household : people) {
                if (household.firm == firm) {
                    loseJob(household);
                }
            }
            if (firm.plot != null) {
                firm.plot.firm = null;
            }
            firm.present = false;
        }

        void fail() {
            failures++;
            bonds = 0;
            for (Plot plot : land.plots) {
                if (plot.kind == Plot.WATERWORKS) {
                    plot.kind = Plot.NOTHING;
                }
            }
            laws.failTown();
            cutRents();
        }

        void cutRents() {
            for (Plot plot : land.plots) {
                plot.rent = Math.min(plot.rent, laws.greatestRent);
            }
        }

        int countHouseholds() {
            int count = 0;
            for (Household household : people) {
                if (household.present) {
                    count++;
                }
            }
            return count;
        }

        int countEmployed() {
            int count = 0;
            for (Household household : people) {
                if (household.firm != null) {
                    count++;
                }
            }
            return count;
        }

        int countTenants() {
            int count = 0;
            for (Plot plot : land.plots) {
                if (plot.tenant != null) {
                    count++;
                }
            }
            return count;
        }

        int sumOfRents() {
            int sum = 0;
            for (Plot plot : land.plots) {
                sum += plot.rent;
            }
            return sum;
        }

        boolean areGoodsBalanced() {
            int inStock = 0;
            for (Firm firm : firms) {
                inStock += firm.stock;
            }
            return made == inStock + sold + lost;
        }
    }

    /** The workers' ways, chosen until nobody has a cheaper one. */
    private static final class Routes {
        // A reach is a cost and, below it, a number of roads, so that of equal costs the fewest roads are the least.
        private static final int COST = 64;
        private static final int FAR = 1000000;
        // Each change lowers the sum of 1 + 2 + .. + load over all roads, which is below 2000.
        private static final int MOST_ROUNDS = 1000000;

        static void choose(Town town) {
            for (Plot plot : town.land.plots) {
                plot.wasOpen = town.land.isOpenRoad(plot);
                plot.load = 0;
            }
            for (Household household : town.people) {
                sendToWork(town.land, household);
            }
            boolean changed = true;
            for (int round = 0; round < MOST_ROUNDS && changed; round++) {
                changed = goRound(town);
            }
            for (Household household : town.people) {
                household.cost = household.isWorker() ? costOfOwn(town.land, household) : Household.NO_WORKER;
            }
        }

        private static void sendToWork(Land land, Household household) {
            household.start = null;
            household.goal = null;
            household.route = Household.NO_ROUTE;
            Plot home = household.home;
            Firm firm = household.firm;
            if (home == null || firm == null) {
                return;
            }
            land.spreadFrom(home);
            if (firm.canBeReached()) {
                household.start = home;
                household.goal = firm.plot;
            }
        }

        private static boolean goRound(Town town) {
            boolean changed = false;
            for (Household household : town.people) {
                if (household.isWorker() && takeCheapest(town.land, household)) {
                    changed = true;
                }
            }
            return changed;
        }

        private static boolean takeCheapest(Land land, Household worker) {
            int reach = search(land, worker);
            if (worker.route != Household.NO_ROUTE && reach / COST >= costOfOwn(land, worker)) {
                return false;
            }
            int route = trace(worker, reach);
            addLoad(land, worker, -1);
            worker.route = route;
            addLoad(land, worker, 1);
            return true;
        }

        private static void addLoad(Land land, Household worker, int by) {
            for (Plot plot : land.plots) {
                if (worker.goesOver(plot)) {
                    plot.load += by;
                }
            }
        }

        private static int costOfOwn(Land land, Household worker) {
            int cost = 0;
            for (Plot plot : land.plots) {
                if (worker.goesOver(plot)) {
                    cost += plot.load;
                }
            }
            return cost;
        }

        private static int stepOver(Plot road, Household worker) {
            int others = worker.goesOver(road) ? road.load - 1 : road.load;
            return (1 + others) * COST + 1;
        }

        /** Puts into each open road's reach the least one from it to the goal; answers the least one from the start. */
        private static int search(Land land, Household worker) {
            if (worker.start == null || worker.goal == null || worker.start.isBeside(worker.goal)) {
                return 0;
            }
            for (Plot plot : land.plots) {
                plot.reach = FAR;
                plot.done = false;
                plot.step = stepOver(plot, worker);
            }
            improve(worker.goal, 0);
            for (int i = 0; i < Land.PLOTS; i++) {
                Plot nearest = nearestOpen(land);
                if (nearest == null) {
                    break;
                }
                nearest.done = true;
                improve(nearest, nearest.reach);
            }
            return leastBeside(worker.start);
        }

        private static Plot nearestOpen(Land land) {
            Plot nearest = null;
            for (Plot plot : land.plots) {
                if (!plot.done && plot.reach != FAR && (nearest == null || plot.reach < nearest.reach)) {
                    nearest = plot;
                }
            }
            return nearest;
        }

        private static void improve(Plot from, int reach) {
            for (Plot side : from.sides) {
                if (side != null && side.wasOpen && !side.done) {
                    side.reach = Math.min(side.reach, reach + side.step);
                }
            }
        }

        private static int leastBeside(Plot start) {
            int least = FAR;
            for (Plot side : start.sides) {
                if (side != null && side.wasOpen) {
                    least = Math.min(least, side.reach);
                }
            }
            return least;
        }

        /** The first way of this reach, as the search that went before left it. */
        private static int trace(Household worker, int reach) {
            int route = 0;
            int left = reach;
            Plot at = worker.start;
            for (int i = 0; i < Land.PLOTS && left > 0 && at != null; i++) {
                at = firstBeside(at, left);
                if (at != null) {
                    route |= 1 << at.number;
                    left -= at.step;
                }
            }
            return route;
        }

        private static Plot firstBeside(Plot at, int reach) {
            for (Plot side : at.sides) {
                if (side != null && side.wasOpen && side.reach == reach) {
                    return side;
                }
            }
            return null;
        }

        /** Whether no worker of the last day had a cheaper way, looked for anew on the roads of that day. */
        static boolean areSettled(Town town) {
            for (Household household : town.people) {
                if (household.isWorker() && search(town.land, household) / COST < costOfOwn(town.land, household)) {
                    return false;
                }
            }
            return true;
        }
    }

    /** A day, but for its trade. */
    private static final class Day {
        private static final int FLOOD_SHAME = 3;
        private static final int BID_PART = 10;
        private static final int MOST_SERVED = 6;
        private static final int INTEREST_PART = 20;
        private static final int REPAYING_ABOVE = 200;
        private static final int REPAID = 10;

        static void live(Town town) {
            town.day++;
            flood(town);
            letHomes(town);
            hire(town);
            Routes.choose(town);
            giveWater(town);
            Trade.work(town);
            Trade.carryFreight(town);
            Trade.shop(town);
            payRents(town);
            payInterest(town);
            repay(town);
            changeNames(town);
        }

        private static void flood(Town town) {
            for (Household household : town.people) {
                Plot home = household.home;
                if (home != null && town.land.isFlooded(home)) {
                    town.moveOut(household);
                    home.changeName(-FLOOD_SHAME);
                }
            }
        }

        private static void letHomes(Town town) {
            for (Plot plot : town.land.plots) {
                if (plot.kind == Plot.HOME && plot.tenant == null && !town.land.isFlooded(plot)) {
                    letHome(town, plot);
                }
            }
        }

        private static void letHome(Town town, Plot plot) {
            Household winner = null;
            int greatest = 0;
            int second = 0;
            for (Household household : town.people) {
                if (!household.present || household.home != null) {
                    continue;
                }
                int bid = town.book.balanceOf(household.account) / BID_PART + plot.name;
                if (winner == null || bid > greatest) {
                    second = greatest;
                    greatest = bid;
                    winner = household;
                } else {
                    second = Math.max(second, bid);
                }
            }
            if (winner != null) {
                town.moveIn(winner, plot, Math.min(Math.max(second, 1), town.laws.greatestRent));
            }
        }

        private static void hire(Town town) {
            for (Household household : town.people) {
                if (household.home == null || household.firm != null) {
                    continue;
                }
                town.land.spreadFrom(household.home);
                Firm best = null;
                for (Firm firm : town.firms) {
                    if (firm.hasFreeJob() && firm.canBeReached() && (best == null || firm.wage > best.wage)) {
                        best = firm;
                    }
                }
                if (best != null) {
                    town.takeJob(household, best);
                }
            }
        }

        private static void giveWater(Town town) {
            for (Plot plot : town.land.plots) {
                plot.water = false;
            }
            for (Plot plot : town.land.plots) {
                if (plot.kind == Plot.WATERWORKS) {
                    town.land.spreadFrom(plot);
                    serveReached(town.land);
                }
            }
        }

        private static void serveReached(Land land) {
            for (int i = 0; i < MOST_SERVED; i++) {
                Plot next = null;
                for (Plot plot : land.plots) {
                    if (plot.takesWater() && !plot.water && plot.roads != Plot.NO_WAY
                            && (next == null || plot.roads < next.roads)) {
                        next = plot;
                    }
                }
                if (next == null) {
                    break;
                }
                next.water = true;
            }
        }

        private static void payRents(Town town) {
            for (Household household : town.people) {
                Plot home = household.home;
                if (home == null) {
                    continue;
                }
                if (town.book.has(household.account, home.rent)) {
                    town.book.pay(household.account, Book.TREASURY, home.rent);
                } else {
                    town.moveOut(household);
                    home.changeName(-1);
                }
            }
        }

        private static int interestOn(int debt) {
            return (debt + INTEREST_PART - 1) / INTEREST_PART;
        }

        private static void payInterest(Town town) {
            for (Firm firm : town.firms) {
                int interest = interestOn(firm.credit);
                if (town.book.has(firm.account, interest)) {
                    town.book.pay(firm.account, Book.BANK, interest);
                } else {
                    town.close(firm);
                }
            }
            int interest = interestOn(town.bonds);
            if (town.book.has(Book.TREASURY, interest)) {
                town.book.pay(Book.TREASURY, Book.BANK, interest);
            } else {
                town.fail();
            }
        }

        private static void repay(Town town) {
            for (Firm firm : town.firms) {
                if (firm.credit > 0 && town.book.balanceOf(firm.account) > REPAYING_ABOVE) {
                    int amount = Math.min(REPAID, firm.credit);
                    town.book.pay(firm.account, Book.BANK, amount);
                    firm.credit -= amount;
                }
            }
        }

        private static void changeNames(Town town) {
            for (Plot plot : town.land.plots) {
                if (plot.tenant != null) {
                    plot.changeName(plot.water && plot.tenant.hunger == 0 ? 1 : -1);
                }
            }
        }
    }

    /** What is made, paid and sold on a day. */
    private static final class Trade {
        private static final int BEST_EFFORT = 8;
        private static final int EFFORT_PART = 4;
        private static final int MOST_CREDIT = 300;
        private static final int FACTORY_STOCK = 60;
        private static final int SHOP_STOCK = 20;
        private static final int STARVING = 4;
        private static final int PERCENT = 100;

        static void work(Town town) {
            for (Firm firm : town.firms) {
                firm.worked = false;
            }
            for (Household household : town.people) {
                if (household.isWorker() && household.firm != null) {
                    workFor(town, household, household.firm);
                }
            }
        }

        private static void workFor(Town town, Household worker, Firm firm) {
            firm.worked = true;
            if (firm.isFactory()) {
                store(town, firm, goodsOf(worker));
            }
            payWage(town, worker, firm);
        }

        private static int goodsOf(Household worker) {
            int goods = Math.max(0, (1 + worker.skill) * (BEST_EFFORT - worker.cost)) / EFFORT_PART;
            boolean dry = worker.goal != null && !worker.goal.water;
            return dry ? goods / 2 : goods;
        }

        private static void store(Town town, Firm firm, int goods) {
            int kept = Math.min(goods, FACTORY_STOCK - firm.stock);
            firm.stock += kept;
            town.made += goods;
            town.lost += goods - kept;
        }

        private static void payWage(Town town, Household worker, Firm firm) {
            int wanting = firm.wage - town.book.balanceOf(firm.account);
            if (wanting > 0) {
                if (firm.credit + wanting > MOST_CREDIT || !town.book.has(Book.BANK, wanting)) {
                    town.loseJob(worker);
                    return;
                }
                town.lend(firm, wanting);
            }
            town.book.pay(firm.account, worker.account, firm.wage);
            town.book.pay(worker.account, Book.TREASURY, firm.wage * town.laws.incomeTax / PERCENT);
        }

        static void carryFreight(Town town) {
            for (Firm shop : town.firms) {
                if (shop.isShop() && shop.worked && shop.plot != null) {
                    town.land.spreadFrom(shop.plot);
                    stockUp(town, shop);
                }
            }
        }

        private static void stockUp(Town town, Firm shop) {
            for (int pieces = shop.stock; pieces < SHOP_STOCK; pieces++) {
                Firm factory = cheapestFactory(town);
                if (factory == null || !town.book.has(shop.account, factory.price)) {
                    break;
                }
                town.book.pay(shop.account, factory.account, factory.price);
                factory.stock--;
                shop.stock++;
            }
        }

        private static Firm cheapestFactory(Town town) {
            Firm cheapest = null;
            for (Firm firm : town.firms) {
                if (firm.isFactory() && sells(firm) && (cheapest == null || firm.price < cheapest.price)) {
                    cheapest = firm;
                }
            }
            return cheapest;
        }

        private static boolean sells(Firm firm) {
            return firm.stock > 0 && firm.canBeReached();
        }

        static void shop(Town town) {
            for (Household household : town.people) {
                if (!household.present) {
                    continue;
                }
                household.hunger = buysPiece(town, household) ? 0 : household.hunger + 1;
                if (household.hunger >= STARVING) {
                    town.sendAway(household);
                }
            }
        }

        private static boolean buysPiece(Town town, Household household) {
            if (household.home == null) {
                return false;
            }
            town.land.spreadFrom(household.home);
            Firm shop = cheapestShop(town);
            if (shop == null || !town.book.has(household.account, shop.price)) {
                return false;
            }
            town.book.pay(household.account, shop.account, shop.price);
            town.book.pay(shop.account, Book.TREASURY, shop.price * town.laws.salesTax / PERCENT);
            shop.stock--;
            town.sold++;
            return true;
        }

        private static Firm cheapestShop(Town town) {
            Firm cheapest = null;
            for (Firm firm : town.firms) {
                if (firm.isShop() && firm.worked && sells(firm) && (cheapest == null || firm.price < cheapest.price)) {
                    cheapest = firm;
                }
            }
            return cheapest;
        }
    }
}

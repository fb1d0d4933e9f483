import java.util.ArrayList;
import java.util.Arrays;
import java.util.LinkedHashMap;
import java.util.List;
import java.util.Map;
import java.util.NoSuchElementException;
import java.util.TreeMap;

/**
 * The document once more, in the slowest and plainest way: ways are found by trying all of them, balances are
 * summed up from the journal. Shares no code with the class under test.
 */
final class Model {
    int[] height = new int[25];
    int[] name = new int[25];
    char[] built = new char[25];
    int[] rent = new int[25];
    int[] load = new int[25];
    boolean[] water = new boolean[25];
    int river = 0;
    Map<Character, Integer> precedents = new TreeMap<>();
    Map<Character, Integer> law = new TreeMap<>(Map.of('i', 10, 's', 5, 'r', 50, 't', 1));
    List<int[]> journal = new ArrayList<>();
    List<int[]> people = new ArrayList<>();
    List<int[]> firms = new ArrayList<>();
    int bonds = 0;
    int failures = 0;
    int day = 0;

    // A household's row, and a firm's row.
    static final int THERE = 0, SKILL = 1, HOME = 2, FIRM = 3, HUNGER = 4, COST = 5;
    static final int OPEN = 0, PLOT = 1, WAGE = 2, PRICE = 3, CREDIT = 4, STOCK = 5, WORKED = 6;

    Model() {
        Arrays.fill(height, 5);
        Arrays.fill(name, 5);
        Arrays.fill(built, '.');
        move(-1, 1, 2000);
        move(-1, 0, 500);
    }

    void move(int from, int to, int amount) {
        if (amount > 0) {
            journal.add(new int[] {from, to, amount});
        }
    }

    int sum(int account) {
        int sum = 0;
        for (int[] entry : journal) {
            sum += entry[1] == account ? entry[2] : 0;
            sum -= entry[0] == account ? entry[2] : 0;
        }
        return sum;
    }

    boolean flooded(int plot) {
        return height[plot] < river;
    }

    List<Integer> beside(int plot) {
        List<Integer> all = new ArrayList<>();
        for (int other = 0; other < 25; other++) {
            int down = Math.abs(plot / 5 - other / 5);
            int across = Math.abs(plot % 5 - other % 5);
            if (down + across == 1) {
                all.add(other);
            }
        }
        return all;
    }

    /** All ways from one plot to another, in the order of their plots. */
    List<List<Integer>> ways(int from, int to) {
        List<List<Integer>> all = new ArrayList<>();
        if (flooded(from) || flooded(to)) {
            return all;
        }
        if (from == to || beside(from).contains(to)) {
            all.add(List.of());
            return all;
        }
        walk(from, from, to, new ArrayList<>(), all);
        return all;
    }

    private void walk(int from, int at, int to, List<Integer> way, List<List<Integer>> all) {
        if (at != from && beside(at).contains(to)) {
            all.add(new ArrayList<>(way));
        }
        for (int next : beside(at)) {
            if (built[next] == 'r' && !flooded(next) && next != from && next != to && !way.contains(next)) {
                way.add(next);
                walk(from, next, to, way, all);
                way.remove(way.size() - 1);
            }
        }
    }

    /** The fewest roads, or -1. */
    int fewest(int from, int to) {
        int fewest = -1;
        for (List<Integer> way : ways(from, to)) {
            if (fewest < 0 || way.size() < fewest) {
                fewest = way.size();
            }
        }
        return fewest;
    }

    static void plot(int plot) {
        if (plot < 0 || plot > 24) {
            throw new IndexOutOfBoundsException();
        }
    }

    static void range(int number, int least, int most) {
        if (number < least || number > most) {
            throw new IllegalArgumentException();
        }
    }

    int[] household(int number) {
        if (number < 0 || number >= people.size()) {
            throw new IndexOutOfBoundsException();
        }
        if (people.get(number)[THERE] == 0) {
            throw new NoSuchElementException();
        }
        return people.get(number);
    }

    int[] firm(int number) {
        if (number < 0 || number >= firms.size()) {
            throw new IndexOutOfBoundsException();
        }
        if (firms.get(number)[OPEN] == 0) {
            throw new NoSuchElementException();
        }
        return firms.get(number);
    }

    /** The household whose home a plot is, or -1. */
    int tenant(int plot) {
        for (int i = 0; i < people.size(); i++) {
            if (people.get(i)[THERE] == 1 && people.get(i)[HOME] == plot) {
                return i;
            }
        }
        return -1;
    }

    int firmAt(int plot) {
        for (int i = 0; i < firms.size(); i++) {
            if (firms.get(i)[OPEN] == 1 && firms.get(i)[PLOT] == plot) {
                return i;
            }
        }
        return -1;
    }

    int workers(int firm) {
        int count = 0;
        for (int[] row : people) {
            count += row[THERE] == 1 && row[FIRM] == firm ? 1 : 0;
        }
        return count;
    }

    int setHeight(int plot, int to) {
        plot(plot);
        range(to, 0, 9);
        int before = height[plot];
        height[plot] = to;
        return before;
    }

    int setRiver(int level) {
        range(level, 0, 10);
        river = level;
        int count = 0;
        for (int i = 0; i < 25; i++) {
            count += flooded(i) ? 1 : 0;
        }
        return count;
    }

    boolean build(int plot, char kind) {
        plot(plot);
        if (kind != 'r' && kind != 'h' && kind != 's' && kind != 'f' && kind != 'w') {
            throw new IllegalArgumentException();
        }
        if (built[plot] != '.' || sum(0) < 40) {
            throw new IllegalStateException();
        }
        int objections = 0;
        for (int side : beside(plot)) {
            int who = tenant(side);
            if (who >= 0 && (kind == 'f' || kind == 'w' || kind == 'r' && people.get(who)[FIRM] >= 0)) {
                objections++;
            }
        }
        int precedent = precedents.getOrDefault(kind, 0);
        int bearable = law.get('t') + precedent;
        if (bearable < 0 || objections > bearable) {
            precedents.put(kind, precedent - 1);
            return false;
        }
        if (objections > 0) {
            precedents.put(kind, precedent + 1);
        }
        move(0, 2, 40);
        built[plot] = kind;
        return true;
    }

    char takeDown(int plot) {
        plot(plot);
        if (built[plot] == '.' || tenant(plot) >= 0 || firmAt(plot) >= 0) {
            throw new IllegalStateException();
        }
        char before = built[plot];
        built[plot] = '.';
        return before;
    }

    int setTolerance(int to) {
        range(to, 0, 4);
        return law.put('t', to);
    }

    boolean vote(char what, int number) {
        if (what != 'i' && what != 's' && what != 'r') {
            throw new IllegalArgumentException();
        }
        range(number, what == 'r' ? 1 : 0, what == 'r' ? 99 : 50);
        int yes = 0;
        int no = 0;
        for (int i = 0; i < people.size(); i++) {
            int[] row = people.get(i);
            if (row[THERE] == 0) {
                continue;
            }
            boolean less = what == 'i' ? row[FIRM] >= 0 : what == 's' ? sum(100 + i) < 50 : row[HOME] >= 0;
            if (less ? number < law.get(what) : number > law.get(what)) {
                yes++;
            } else {
                no++;
            }
        }
        if (yes <= no) {
            return false;
        }
        law.put(what, number);
        cutRents();
        return true;
    }

    void cutRents() {
        for (int i = 0; i < 25; i++) {
            rent[i] = Math.min(rent[i], law.get('r'));
        }
    }

    int law(char what) {
        if (!law.containsKey(what)) {
            throw new IllegalArgumentException();
        }
        return law.get(what);
    }

    char builtOn(int plot) {
        plot(plot);
        return built[plot];
    }

    int nameOf(int plot) {
        plot(plot);
        return name[plot];
    }

    int rentOf(int plot) {
        plot(plot);
        if (tenant(plot) < 0) {
            throw new NoSuchElementException();
        }
        return rent[plot];
    }

    int load(int plot) {
        plot(plot);
        return load[plot];
    }

    boolean hadWater(int plot) {
        plot(plot);
        return water[plot];
    }

    int way(int plot, int other) {
        plot(plot);
        plot(other);
        int fewest = fewest(plot, other);
        if (fewest < 0) {
            throw new NoSuchElementException();
        }
        return fewest;
    }

    int arrive(int skill, int money) {
        range(skill, 0, 3);
        range(money, 0, 999);
        if (people.size() == 12) {
            throw new IllegalStateException();
        }
        people.add(new int[] {1, skill, -1, -1, 0, -1});
        move(-1, 100 + people.size() - 1, money);
        return people.size() - 1;
    }

    int leave(int household) {
        household(household);
        int takes = sum(100 + household);
        goAway(household);
        return takes;
    }

    void goAway(int household) {
        loseHome(household);
        move(100 + household, -1, sum(100 + household));
        people.get(household)[THERE] = 0;
    }

    void loseHome(int household) {
        int[] row = people.get(household);
        if (row[HOME] >= 0) {
            rent[row[HOME]] = 0;
        }
        row[HOME] = -1;
        row[FIRM] = -1;
    }

    int found(int plot, int wage, int price) {
        plot(plot);
        range(wage, 1, 99);
        range(price, 1, 99);
        if (built[plot] != 's' && built[plot] != 'f' || firmAt(plot) >= 0 || firms.size() == 6 || sum(1) < 100) {
            throw new IllegalStateException();
        }
        firms.add(new int[] {1, plot, wage, price, 100, 0, 0});
        move(1, 10 + firms.size() - 1, 100);
        return firms.size() - 1;
    }

    int setPay(int firm, int wage, int price) {
        int[] row = firm(firm);
        range(wage, 1, 99);
        range(price, 1, 99);
        int before = row[WAGE];
        row[WAGE] = wage;
        row[PRICE] = price;
        return before;
    }

    int borrow(int amount) {
        range(amount, 1, 999);
        if (sum(1) < amount) {
            throw new IllegalStateException();
        }
        move(1, 0, amount);
        bonds += amount;
        return bonds;
    }

    int pass(int days) {
        range(days, 1, 10);
        for (int i = 0; i < days; i++) {
            oneDay();
        }
        return day;
    }

    void account(int account) {
        boolean town = account >= 0 && account <= 2;
        boolean firm = account >= 10 && account < 10 + firms.size();
        boolean household = account >= 100 && account < 100 + people.size();
        if (!town && !firm && !household) {
            throw new IndexOutOfBoundsException();
        }
    }

    int balance(int account) {
        account(account);
        return sum(account);
    }

    int entry(int index, int what) {
        if (index < 0 || index >= journal.size() || what < 0 || what > 2) {
            throw new IndexOutOfBoundsException();
        }
        return journal.get(index)[what];
    }

    int households() {
        int count = 0;
        for (int[] row : people) {
            count += row[THERE];
        }
        return count;
    }

    long money() {
        long sum = 0;
        for (int[] entry : journal) {
            sum += entry[0] == -1 ? entry[2] : 0;
            sum -= entry[1] == -1 ? entry[2] : 0;
        }
        return sum;
    }

    float workingShare() {
        int working = 0;
        for (int[] row : people) {
            working += row[THERE] == 1 && row[FIRM] >= 0 ? 1 : 0;
        }
        if (households() == 0) {
            throw new ArithmeticException();
        }
        return (float) working / (float) households();
    }

    double meanRent() {
        int sum = 0;
        int count = 0;
        for (int i = 0; i < 25; i++) {
            if (tenant(i) >= 0) {
                sum += rent[i];
                count++;
            }
        }
        if (count == 0) {
            throw new ArithmeticException();
        }
        return (double) sum / (double) count;
    }

    void oneDay() {
        day++;
        flood();
        for (int i = 0; i < 25; i++) {
            if (built[i] == 'h' && !flooded(i) && tenant(i) < 0) {
                auction(i);
            }
        }
        for (int[] row : people) {
            if (row[THERE] == 1 && row[HOME] >= 0 && row[FIRM] < 0) {
                row[FIRM] = bestJob(row[HOME]);
            }
        }
        routes();
        serve();
        work();
        freight();
        shopping();
        rents();
        interest();
        for (int i = 0; i < firms.size(); i++) {
            int[] row = firms.get(i);
            if (row[OPEN] == 1 && row[CREDIT] > 0 && sum(10 + i) > 200) {
                int back = row[CREDIT] < 10 ? row[CREDIT] : 10;
                move(10 + i, 1, back);
                row[CREDIT] -= back;
            }
        }
        for (int i = 0; i < 25; i++) {
            int who = tenant(i);
            if (who >= 0) {
                rename(i, water[i] && people.get(who)[HUNGER] == 0 ? 1 : -1);
            }
        }
    }

    void rename(int plot, int by) {
        name[plot] += by;
        if (name[plot] < 0) {
            name[plot] = 0;
        }
        if (name[plot] > 9) {
            name[plot] = 9;
        }
    }

    void flood() {
        for (int i = 0; i < people.size(); i++) {
            int home = people.get(i)[HOME];
            if (people.get(i)[THERE] == 1 && home >= 0 && flooded(home)) {
                loseHome(i);
                rename(home, -3);
            }
        }
    }

    void auction(int plot) {
        List<int[]> bids = new ArrayList<>();
        for (int i = 0; i < people.size(); i++) {
            if (people.get(i)[THERE] == 1 && people.get(i)[HOME] < 0) {
                bids.add(new int[] {sum(100 + i) / 10 + name[plot], i});
            }
        }
        if (bids.isEmpty()) {
            return;
        }
        bids.sort((a, b) -> a[0] != b[0] ? b[0] - a[0] : a[1] - b[1]);
        people.get(bids.get(0)[1])[HOME] = plot;
        int second = bids.size() > 1 ? bids.get(1)[0] : 0;
        rent[plot] = Math.min(second == 0 ? 1 : second, law.get('r'));
    }

    int bestJob(int home) {
        int best = -1;
        for (int i = 0; i < firms.size(); i++) {
            int[] row = firms.get(i);
            if (row[OPEN] == 1 && workers(i) < (built[row[PLOT]] == 'f' ? 3 : 1) && fewest(home, row[PLOT]) >= 0
                    && (best < 0 || row[WAGE] > firms.get(best)[WAGE])) {
                best = i;
            }
        }
        return best;
    }

    void routes() {
        Map<Integer, List<List<Integer>>> all = new LinkedHashMap<>();
        Map<Integer, List<Integer>> own = new LinkedHashMap<>();
        for (int i = 0; i < people.size(); i++) {
            int[] row = people.get(i);
            row[COST] = -1;
            if (row[THERE] == 1 && row[HOME] >= 0 && row[FIRM] >= 0) {
                List<List<Integer>> found = ways(row[HOME], firms.get(row[FIRM])[PLOT]);
                if (!found.isEmpty()) {
                    all.put(i, found);
                }
            }
        }
        boolean changed = true;
        while (changed) {
            changed = false;
            for (int i : all.keySet()) {
                List<Integer> best = null;
                for (List<Integer> way : all.get(i)) {
                    int gain = best == null ? -1 : costOf(way, i, own) - costOf(best, i, own);
                    if (gain < 0 || gain == 0 && way.size() < best.size()) {
                        best = way;
                    }
                }
                if (own.get(i) == null || costOf(best, i, own) < costOf(own.get(i), i, own)) {
                    own.put(i, best);
                    changed = true;
                }
            }
        }
        Arrays.fill(load, 0);
        for (int i : own.keySet()) {
            people.get(i)[COST] = costOf(own.get(i), i, own);
            for (int road : own.get(i)) {
                load[road]++;
            }
        }
    }

    int costOf(List<Integer> way, int worker, Map<Integer, List<Integer>> own) {
        int cost = 0;
        for (int road : way) {
            cost++;
            for (int other : own.keySet()) {
                cost += other != worker && own.get(other).contains(road) ? 1 : 0;
            }
        }
        return cost;
    }

    void serve() {
        Arrays.fill(water, false);
        for (int works = 0; works < 25; works++) {
            if (built[works] != 'w') {
                continue;
            }
            List<int[]> reached = new ArrayList<>();
            for (int i = 0; i < 25; i++) {
                boolean takes = built[i] == 'h' || built[i] == 's' || built[i] == 'f';
                int roads = takes && !water[i] ? fewest(works, i) : -1;
                if (roads >= 0) {
                    reached.add(new int[] {roads, i});
                }
            }
            reached.sort((a, b) -> a[0] != b[0] ? a[0] - b[0] : a[1] - b[1]);
            for (int i = 0; i < reached.size() && i < 6; i++) {
                water[reached.get(i)[1]] = true;
            }
        }
    }

    void work() {
        for (int[] row : firms) {
            row[WORKED] = 0;
        }
        for (int i = 0; i < people.size(); i++) {
            int[] row = people.get(i);
            if (row[COST] < 0) {
                continue;
            }
            int[] firm = firms.get(row[FIRM]);
            int account = 10 + row[FIRM];
            firm[WORKED] = 1;
            if (built[firm[PLOT]] == 'f') {
                int goods = Math.max(0, Math.floorDiv((1 + row[SKILL]) * (8 - row[COST]), 4));
                firm[STOCK] = Math.min(60, firm[STOCK] + (water[firm[PLOT]] ? goods : goods / 2));
            }
            int wanting = Math.max(0, firm[WAGE] - sum(account));
            if (wanting > 0 && (firm[CREDIT] + wanting > 300 || sum(1) < wanting)) {
                row[FIRM] = -1;
                continue;
            }
            move(1, account, wanting);
            firm[CREDIT] += wanting;
            move(account, 100 + i, firm[WAGE]);
            move(100 + i, 0, firm[WAGE] * law.get('i') / 100);
        }
    }

    /** The cheapest firm of a kind that has stock and that can be reached, or -1. */
    int cheapest(char kind, int from) {
        int best = -1;
        for (int i = 0; i < firms.size(); i++) {
            int[] row = firms.get(i);
            if (row[OPEN] == 1 && built[row[PLOT]] == kind && row[STOCK] > 0 && (kind == 'f' || row[WORKED] == 1)
                    && fewest(from, row[PLOT]) >= 0 && (best < 0 || row[PRICE] < firms.get(best)[PRICE])) {
                best = i;
            }
        }
        return best;
    }

    void freight() {
        for (int i = 0; i < firms.size(); i++) {
            int[] shop = firms.get(i);
            if (shop[OPEN] == 0 || built[shop[PLOT]] != 's' || shop[WORKED] == 0) {
                continue;
            }
            while (shop[STOCK] < 20) {
                int from = cheapest('f', shop[PLOT]);
                if (from < 0 || sum(10 + i) < firms.get(from)[PRICE]) {
                    break;
                }
                move(10 + i, 10 + from, firms.get(from)[PRICE]);
                firms.get(from)[STOCK]--;
                shop[STOCK]++;
            }
        }
    }

    void shopping() {
        for (int i = 0; i < people.size(); i++) {
            int[] row = people.get(i);
            if (row[THERE] == 0) {
                continue;
            }
            int shop = row[HOME] < 0 ? -1 : cheapest('s', row[HOME]);
            if (shop >= 0 && sum(100 + i) >= firms.get(shop)[PRICE]) {
                int price = firms.get(shop)[PRICE];
                move(100 + i, 10 + shop, price);
                move(10 + shop, 0, price * law.get('s') / 100);
                firms.get(shop)[STOCK]--;
                row[HUNGER] = 0;
            } else {
                row[HUNGER]++;
                if (row[HUNGER] == 4) {
                    goAway(i);
                }
            }
        }
    }

    void rents() {
        for (int i = 0; i < people.size(); i++) {
            int[] row = people.get(i);
            if (row[THERE] == 0 || row[HOME] < 0) {
                continue;
            }
            int home = row[HOME];
            if (sum(100 + i) >= rent[home]) {
                move(100 + i, 0, rent[home]);
            } else {
                loseHome(i);
                rename(home, -1);
            }
        }
    }

    void interest() {
        for (int i = 0; i < firms.size(); i++) {
            int[] row = firms.get(i);
            int due = (row[CREDIT] + 19) / 20;
            if (row[OPEN] == 0 || sum(10 + i) >= due) {
                move(10 + i, 1, row[OPEN] == 0 ? 0 : due);
                continue;
            }
            move(10 + i, 1, sum(10 + i));
            row[OPEN] = 0;
            row[CREDIT] = 0;
            row[STOCK] = 0;
            for (int[] household : people) {
                household[FIRM] = household[FIRM] == i ? -1 : household[FIRM];
            }
        }
        int due = (bonds + 19) / 20;
        if (sum(0) >= due) {
            move(0, 1, due);
            return;
        }
        failures++;
        bonds = 0;
        for (int i = 0; i < 25; i++) {
            built[i] = built[i] == 'w' ? '.' : built[i];
        }
        law.put('r', 50);
        law.put('i', 20);
        law.put('s', 20);
        cutRents();
    }
}

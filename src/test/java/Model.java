import java.util.ArrayDeque;
import java.util.ArrayList;
import java.util.Comparator;
import java.util.HashMap;
import java.util.List;
import java.util.Map;
import java.util.NoSuchElementException;
import java.util.TreeSet;

/**
 * The document once more, as literally as it can be written: all steps listed, orders and bids in lists,
 * the accounts added up when a lot is closed, a whole copy kept for each change. ModelTest compares it
 * with LotSales.
 */
public final class Model {
    private static final class Item {
        int state;
        int seller;
        int quantity;
        int reserve;
        int opened;
        int why = -1;
        int buyer = -1;
        int price;
        int openedAt;

        Item copy() {
            Item c = new Item();
            c.state = state;
            c.seller = seller;
            c.quantity = quantity;
            c.reserve = reserve;
            c.opened = opened;
            c.why = why;
            c.buyer = buyer;
            c.price = price;
            c.openedAt = openedAt;
            return c;
        }
    }

    /** An order (with its maximum) or a live bid (with its amount). */
    private record Entry(int lot, int bidder, int amount, int number) {
    }

    private record Event(int kind, int lot, int bidder, int amount) {
    }

    private record Limit(int bidder, int limit, int time) {
    }

    private static final class State {
        List<int[]> rows = new ArrayList<>();
        int[] credits = new int[10];
        List<Item> items = new ArrayList<>();
        List<Entry> orders = new ArrayList<>();
        List<Entry> bids = new ArrayList<>();
        List<Event> events = new ArrayList<>();
        int numbers;
        int[][] bidderSums = new int[10][3];
        int[][] sellerSums = new int[6][4];

        State copy() {
            State c = new State();
            for (int[] row : rows) {
                c.rows.add(row.clone());
            }
            c.credits = credits.clone();
            for (Item item : items) {
                c.items.add(item.copy());
            }
            c.orders.addAll(orders);
            c.bids.addAll(bids);
            c.events.addAll(events);
            c.numbers = numbers;
            for (int i = 0; i < 10; i++) {
                c.bidderSums[i] = bidderSums[i].clone();
            }
            for (int i = 0; i < 6; i++) {
                c.sellerSums[i] = sellerSums[i].clone();
            }
            return c;
        }
    }

    private static final Map<String, TreeSet<Integer>> STEPS = new HashMap<>();

    private State now = new State();
    private State saved;
    private final ArrayDeque<State> before = new ArrayDeque<>();
    private int reason;
    private String buffer = "";
    private int faultAt = -1;

    public Model() {
        now.rows.add(new int[] {0, 10});
        now.rows.add(new int[] {100, 20});
        now.rows.add(new int[] {500, 50});
        now.rows.add(new int[] {2000, 100});
        for (int i = 0; i < 10; i++) {
            now.credits[i] = 20000;
        }
    }

    // Steps.

    private TreeSet<Integer> steps() {
        StringBuilder key = new StringBuilder();
        for (int[] row : now.rows) {
            key.append(row[0]).append('/').append(row[1]).append(' ');
        }
        if (STEPS.size() > 40) {
            STEPS.clear();
        }
        return STEPS.computeIfAbsent(key.toString(), k -> {
            TreeSet<Integer> all = new TreeSet<>();
            int step = now.rows.get(0)[1];
            while (step < 120000) {
                all.add(step);
                int increment = 0;
                for (int[] row : now.rows) {
                    if (row[0] <= step) {
                        increment = row[1];
                    }
                }
                step += increment;
            }
            return all;
        });
    }

    private int stepOf(int amount) {
        Integer step = steps().floor(amount);
        return step == null ? 0 : step;
    }

    private int above(int amount) {
        return steps().higher(amount);
    }

    // Standing.

    private List<Limit> limits(int lot) {
        List<Limit> all = new ArrayList<>();
        for (int b = 0; b < 10; b++) {
            int best = 0;
            int time = Integer.MAX_VALUE;
            for (Entry o : now.orders) {
                if (o.lot == lot && o.bidder == b) {
                    best = stepOf(o.amount);
                    time = o.number;
                }
            }
            for (Entry l : now.bids) {
                if (l.lot == lot && l.bidder == b && l.number > now.items.get(lot).openedAt) {
                    if (l.amount > best) {
                        best = l.amount;
                        time = l.number;
                    } else if (l.amount == best) {
                        time = Math.min(time, l.number);
                    }
                }
            }
            if (best > 0) {
                all.add(new Limit(b, best, time));
            }
        }
        sort(all);
        return all;
    }

    private static void sort(List<Limit> all) {
        all.sort(Comparator.comparingInt((Limit l) -> -l.limit).thenComparingInt(l -> l.time));
    }

    private int houseLimit(int lot) {
        Integer step = steps().lower(now.items.get(lot).reserve);
        return step == null ? 0 : step;
    }

    /** Answers leader, limit of the leader, second limit, price. */
    private int[] settle(int lot, List<Limit> all) {
        int house = houseLimit(lot);
        int top = all.isEmpty() ? 0 : all.get(0).limit;
        if (house > top) {
            return new int[] {10, house, top, Math.min(house, above(top))};
        }
        if (all.isEmpty()) {
            return new int[] {-1, 0, 0, 0};
        }
        int second = Math.max(house, all.size() > 1 ? all.get(1).limit : 0);
        return new int[] {all.get(0).bidder, top, second, Math.min(top, above(second))};
    }

    private int[] settle(int lot) {
        return settle(lot, limits(lot));
    }

    private boolean met(int lot) {
        int[] s = settle(lot);
        return s[0] >= 0 && s[0] <= 9 && s[3] >= now.items.get(lot).reserve;
    }

    private int exposure(int bidder) {
        int sum = now.bidderSums[bidder][0];
        for (int lot = 0; lot < now.items.size(); lot++) {
            if (now.items.get(lot).state == 1 && settle(lot)[0] == bidder) {
                sum += settle(lot)[1];
            }
        }
        return sum;
    }

    // Conditions.

    private Item item(int lot) {
        if (lot < 0 || lot >= now.items.size()) {
            throw new IndexOutOfBoundsException();
        }
        return now.items.get(lot);
    }

    private static void place(int value, int count) {
        if (value < 0 || value >= count) {
            throw new IndexOutOfBoundsException();
        }
    }

    private static void argument(boolean good) {
        if (!good) {
            throw new IllegalArgumentException();
        }
    }

    private static void state(boolean good) {
        if (!good) {
            throw new IllegalStateException();
        }
    }

    private static void element(boolean good) {
        if (!good) {
            throw new NoSuchElementException();
        }
    }

    private void change() {
        before.addLast(now.copy());
        if (before.size() > 10) {
            before.removeFirst();
        }
    }

    private void event(int kind, int lot, int bidder, int amount) {
        if (now.events.size() < 250) {
            now.events.add(new Event(kind, lot, bidder, amount));
        }
    }

    private int make(int seller, int quantity, int reserve) {
        Item made = new Item();
        made.seller = seller;
        made.quantity = quantity;
        made.reserve = reserve;
        now.items.add(made);
        return now.items.size() - 1;
    }

    private Entry orderOf(int lot, int bidder) {
        for (Entry o : now.orders) {
            if (o.lot == lot && o.bidder == bidder) {
                return o;
            }
        }
        return null;
    }

    private int count(int lot) {
        return (int) now.orders.stream().filter(o -> o.lot == lot).count();
    }

    // Lots and steps.

    public int addLot(int seller, int quantity, int reserve) {
        argument(seller >= 0 && seller <= 5 && quantity >= 1 && quantity <= 20 && reserve >= 0
                && reserve <= 90000);
        state(now.items.size() < 20);
        change();
        return make(seller, quantity, reserve);
    }

    public int lot(int lot, int what) {
        Item i = item(lot);
        argument(what >= 0 && what <= 4);
        return new int[] {i.state, i.seller, i.quantity, i.reserve, i.opened}[what];
    }

    public int lots(int state) {
        argument(state >= -1 && state <= 6);
        return (int) now.items.stream().filter(i -> state == -1 || i.state == state).count();
    }

    public int setRows(int rows, int bound, int increment) {
        place(rows, 6);
        place(rows, now.rows.size() + 1);
        argument(bound >= 0 && bound <= 90000 && increment >= 1 && increment <= 5000);
        argument(rows == 0 ? bound == 0 : bound > now.rows.get(rows - 1)[0]);
        state(lots(1) == 0);
        change();
        now.rows = new ArrayList<>(now.rows.subList(0, rows));
        now.rows.add(new int[] {bound, increment});
        return now.rows.size();
    }

    public int row(int row, int what) {
        place(row, now.rows.size());
        argument(what == 0 || what == 1);
        return now.rows.get(row)[what];
    }

    public int step(int amount) {
        argument(amount >= 0 && amount <= 99999);
        return stepOf(amount);
    }

    public int nextStep(int amount) {
        argument(amount >= 0 && amount <= 99999);
        return above(amount);
    }

    public int setCredit(int bidder, int credit) {
        place(bidder, 10);
        argument(credit >= 0 && credit <= 999999);
        change();
        int previous = now.credits[bidder];
        now.credits[bidder] = credit;
        return previous;
    }

    // Orders and bids.

    private int orderReason(int lot, int bidder, int maximum) {
        if (item(lot).state > 1) {
            return 6;
        }
        Entry own = orderOf(lot, bidder);
        if (own != null && own.amount >= maximum) {
            return 7;
        }
        if (maximum > now.credits[bidder]) {
            return 8;
        }
        return own == null && now.orders.size() == 40 ? 9 : 0;
    }

    private int bidReason(int lot, int bidder, int amount) {
        if (item(lot).state != 1) {
            return 1;
        }
        int[] s = settle(lot);
        if (s[0] == bidder) {
            return 2;
        }
        if (amount < above(s[3])) {
            return 3;
        }
        if (!steps().contains(amount)) {
            return 4;
        }
        return amount + exposure(bidder) > now.credits[bidder] ? 5 : 0;
    }

    private void refuse(int found) {
        if (found != 0) {
            reason = found;
            throw new UnsupportedOperationException();
        }
    }

    public int order(int lot, int bidder, int maximum) {
        item(lot);
        place(bidder, 10);
        argument(maximum >= 1 && maximum <= 90000);
        refuse(orderReason(lot, bidder, maximum));
        change();
        now.orders.remove(orderOf(lot, bidder));
        now.orders.add(new Entry(lot, bidder, maximum, ++now.numbers));
        event(0, lot, bidder, maximum);
        return now.orders.size();
    }

    public int cancel(int lot, int bidder) {
        Item i = item(lot);
        place(bidder, 10);
        Entry own = orderOf(lot, bidder);
        element(own != null);
        state(i.state == 0);
        change();
        now.orders.remove(own);
        event(9, lot, bidder, own.amount);
        return own.amount;
    }

    public int maximum(int lot, int bidder) {
        item(lot);
        place(bidder, 10);
        Entry own = orderOf(lot, bidder);
        element(own != null);
        return own.amount;
    }

    public int orders(int lot) {
        if (lot == -1) {
            return now.orders.size();
        }
        item(lot);
        return count(lot);
    }

    public int open(int lot) {
        state(item(lot).state == 0);
        change();
        Item i = item(lot);
        i.state = 1;
        i.opened++;
        i.openedAt = now.numbers;
        event(1, lot, -1, 0);
        return settle(lot)[3];
    }

    public int bid(int lot, int bidder, int amount) {
        item(lot);
        place(bidder, 10);
        argument(amount >= 1 && amount <= 99999);
        refuse(bidReason(lot, bidder, amount));
        change();
        now.bids.add(new Entry(lot, bidder, amount, ++now.numbers));
        event(2, lot, bidder, amount);
        return settle(lot)[3];
    }

    public int refusal() {
        element(reason != 0);
        return reason;
    }

    public int wouldRefuse(boolean isOrder, int lot, int bidder, int amount) {
        item(lot);
        place(bidder, 10);
        argument(amount >= 1 && amount <= 90000);
        return isOrder ? orderReason(lot, bidder, amount) : bidReason(lot, bidder, amount);
    }

    public int standing(int lot, int what) {
        Item i = item(lot);
        argument(what >= 0 && what <= 6);
        state(i.state == 1);
        int[] s = settle(lot);
        return new int[] {s[3], s[0], above(s[3]), met(lot) ? 1 : 0, s[1], s[2], limits(lot).size()}[what];
    }

    public int limit(int lot, int rank, int what) {
        Item i = item(lot);
        argument(what >= 0 && what <= 2);
        state(i.state == 1);
        List<Limit> all = limits(lot);
        element(rank >= 0 && rank < all.size());
        Limit l = all.get(rank);
        return new int[] {l.bidder, l.limit, l.time}[what];
    }

    public int priceIf(int lot, int bidder, int amount) {
        Item i = item(lot);
        place(bidder, 10);
        argument(amount <= 99999 && steps().contains(amount));
        state(i.state == 1);
        List<Limit> all = limits(lot);
        for (Limit l : all) {
            if (l.bidder == bidder && l.limit >= amount) {
                return settle(lot)[3];
            }
        }
        all.removeIf(l -> l.bidder == bidder);
        all.add(new Limit(bidder, amount, Integer.MAX_VALUE));
        sort(all);
        return settle(lot, all)[3];
    }

    // Closing.

    public int close(int lot) {
        state(item(lot).state == 1);
        change();
        Item i = item(lot);
        int[] s = settle(lot);
        boolean isSold = met(lot);
        now.orders.removeIf(o -> o.lot == lot);
        if (isSold) {
            i.state = 2;
            i.why = 0;
            i.buyer = s[0];
            i.price = s[3];
            now.bidderSums[s[0]][0] += i.price;
            now.bidderSums[s[0]][1] += premium(i.price);
            now.bidderSums[s[0]][2]++;
            now.sellerSums[i.seller][0] += i.price;
            now.sellerSums[i.seller][1] += Math.min(i.price, Math.max(5, i.price / 10));
            now.sellerSums[i.seller][3]++;
            event(3, lot, i.buyer, i.price);
            return i.price;
        }
        i.state = 3;
        i.why = s[0] == -1 ? 1 : s[0] == 10 ? 2 : 3;
        int fee = i.reserve / 50;
        now.sellerSums[i.seller][2] += fee;
        event(4, lot, -1, fee);
        return 0;
    }

    public int withdraw(int lot) {
        state(item(lot).state == 0);
        change();
        int removed = count(lot);
        now.orders.removeIf(o -> o.lot == lot);
        item(lot).state = 4;
        event(5, lot, -1, 0);
        return removed;
    }

    public int offer(int lot, int reserve) {
        Item i = item(lot);
        argument(reserve >= 0 && reserve < i.reserve);
        state(i.state == 3);
        change();
        int previous = i.reserve;
        item(lot).reserve = reserve;
        item(lot).state = 0;
        event(8, lot, -1, reserve);
        return previous;
    }

    public int split(int lot, int parts) {
        Item whole = item(lot);
        argument(parts >= 2 && parts <= 4 && parts <= whole.quantity);
        state(whole.state == 0);
        state(now.items.size() + parts <= 20);
        int[] quantities = new int[parts];
        for (int unit = 0; unit < whole.quantity; unit++) {
            quantities[unit % parts]++;
        }
        int first = now.items.size();
        List<int[]> made = new ArrayList<>();
        for (int part = 0; part < parts; part++) {
            for (int b = 0; b < 10; b++) {
                Entry own = orderOf(lot, b);
                if (own != null && own.amount * quantities[part] / whole.quantity > 0) {
                    made.add(new int[] {first + part, b, own.amount * quantities[part] / whole.quantity});
                }
            }
        }
        state(now.orders.size() - count(lot) + made.size() <= 40);
        change();
        for (int part = 0; part < parts; part++) {
            make(whole.seller, quantities[part], whole.reserve * quantities[part] / whole.quantity);
        }
        now.orders.removeIf(o -> o.lot == lot);
        for (int[] m : made) {
            now.orders.add(new Entry(m[0], m[1], m[2], ++now.numbers));
        }
        item(lot).state = 5;
        event(6, lot, -1, first);
        return first;
    }

    public int group(int lot, int other) {
        Item one = item(lot);
        Item two = item(other);
        argument(lot != other && one.seller == two.seller && one.quantity + two.quantity <= 20
                && one.reserve + two.reserve <= 90000);
        state(one.state == 0 && two.state == 0);
        state(now.items.size() < 20);
        change();
        int made = make(one.seller, one.quantity + two.quantity, one.reserve + two.reserve);
        List<Entry> joined = new ArrayList<>();
        for (int b = 0; b < 10; b++) {
            Entry first = orderOf(lot, b);
            Entry second = orderOf(other, b);
            if (first != null && second != null) {
                joined.add(new Entry(made, b, Math.min(90000, first.amount + second.amount), ++now.numbers));
            }
        }
        now.orders.removeIf(o -> o.lot == lot || o.lot == other);
        now.orders.addAll(joined);
        item(lot).state = 6;
        item(other).state = 6;
        event(7, lot, -1, made);
        return made;
    }

    public int why(int lot) {
        element(item(lot).why >= 0);
        return item(lot).why;
    }

    public int sold(int lot, boolean isPrice) {
        element(item(lot).state == 2);
        return isPrice ? item(lot).price : item(lot).buyer;
    }

    // Accounts.

    public int premium(int price) {
        argument(price >= 0 && price <= 99999);
        int low = Math.max(0, Math.min(price, 1000));
        int middle = Math.max(0, Math.min(price - 1000, 4000));
        int high = Math.max(0, price - 5000);
        return low / 4 + middle / 5 + high * 12 / 100;
    }

    public int bidder(int bidder, int what) {
        place(bidder, 10);
        argument(what >= 0 && what <= 6);
        int[] s = now.bidderSums[bidder];
        int leads = 0;
        for (int lot = 0; lot < now.items.size(); lot++) {
            if (item(lot).state == 1 && settle(lot)[0] == bidder) {
                leads++;
            }
        }
        return new int[] {now.credits[bidder], s[0], s[1], s[0] + s[1], s[2], exposure(bidder), leads}[what];
    }

    public int seller(int seller, int what) {
        place(seller, 6);
        argument(what >= 0 && what <= 5);
        int[] s = now.sellerSums[seller];
        int boughtIn = (int) now.items.stream().filter(i -> i.seller == seller && i.state == 3).count();
        return new int[] {s[0], s[1], s[2], s[0] - s[1] - s[2], s[3], boughtIn}[what];
    }

    public int house(int what) {
        argument(what >= 0 && what <= 3);
        int premiums = 0;
        int prices = 0;
        for (int[] s : now.bidderSums) {
            prices += s[0];
            premiums += s[1];
        }
        int commissions = 0;
        int fees = 0;
        for (int[] s : now.sellerSums) {
            commissions += s[1];
            fees += s[2];
        }
        return new int[] {premiums + commissions + fees, prices, prices + premiums,
            prices - commissions - fees}[what];
    }

    public double soldShare() {
        double sales = events(3);
        double all = sales + events(4);
        if (all == 0) {
            throw new ArithmeticException();
        }
        return sales / all;
    }

    // Ledger, texts and changes.

    public int events(int kind) {
        argument(kind >= -1 && kind <= 9);
        return (int) now.events.stream().filter(e -> kind == -1 || e.kind == kind).count();
    }

    public int event(int event, int what) {
        place(event, now.events.size());
        argument(what >= 0 && what <= 3);
        Event e = now.events.get(event);
        return new int[] {e.kind, e.lot, e.bidder, e.amount}[what];
    }

    public int audit() {
        int[] prices = new int[10];
        int[] fees = new int[6];
        for (Event e : now.events) {
            if (e.kind == 3) {
                prices[e.bidder] += e.amount;
            }
            if (e.kind == 4) {
                fees[item(e.lot).seller] += e.amount;
            }
        }
        int differing = 0;
        for (int b = 0; b < 10; b++) {
            differing += prices[b] != now.bidderSums[b][0] ? 1 : 0;
        }
        for (int s = 0; s < 6; s++) {
            differing += fees[s] != now.sellerSums[s][2] ? 1 : 0;
        }
        return differing;
    }

    public void append(char c) {
        state(buffer.length() < 60);
        buffer += c;
    }

    private static final String NUMBER = "[0-9]{1,5}";
    private static final String COMMAND = "([ohw]" + NUMBER + "|c" + NUMBER + "," + NUMBER
            + "|[ab]" + NUMBER + "," + NUMBER + "," + NUMBER + ")";
    private static final java.util.regex.Pattern TEXT =
            java.util.regex.Pattern.compile(COMMAND + "(;" + COMMAND + ")*");

    /** Whether something can be put behind the text so that it becomes a text of commands. */
    private static boolean canGoOn(String text) {
        java.util.regex.Matcher matcher = TEXT.matcher(text);
        return matcher.matches() || matcher.hitEnd();
    }

    public int read() {
        String text = buffer;
        buffer = "";
        faultAt = -1;
        if (!TEXT.matcher(text).matches()) {
            faultAt = text.length();
            for (int i = text.length(); i > 0; i--) {
                if (!canGoOn(text.substring(0, i))) {
                    faultAt = i - 1;
                }
            }
            throw new IllegalArgumentException();
        }
        int done = 0;
        for (String command : text.split(";")) {
            try {
                carryOut(command);
            } catch (RuntimeException e) {
                return done;
            }
            done++;
        }
        return done;
    }

    private void carryOut(String command) {
        String[] parts = command.substring(1).split(",");
        int lot = Integer.parseInt(parts[0]);
        int second = parts.length > 1 ? Integer.parseInt(parts[1]) : 0;
        int third = parts.length > 2 ? Integer.parseInt(parts[2]) : 0;
        switch (command.charAt(0)) {
            case 'o' -> open(lot);
            case 'h' -> close(lot);
            case 'w' -> withdraw(lot);
            case 'b' -> bid(lot, second, third);
            case 'a' -> order(lot, second, third);
            default -> cancel(lot, second);
        }
    }

    public int faultPosition() {
        return faultAt;
    }

    public int undo() {
        state(!before.isEmpty());
        now = before.removeLast();
        return before.size();
    }

    public void save() {
        saved = now.copy();
    }

    public void restore() {
        state(saved != null);
        now = saved.copy();
        before.clear();
    }
}

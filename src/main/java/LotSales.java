import java.util.NoSuchElementException;

/**
 * An auction house: lots, a table of increments, orders and live bids, accounts, a ledger, texts of
 * commands, and undo. The promises are those of the project's document; README.md tells how to use it.
 */
public final class LotSales {
    private static final int MAX_LOTS = 20;
    private static final int MAX_ORDERS = 40;
    private static final int MAX_ROWS = 6;
    private static final int MAX_EVENTS = 250;
    private static final int MAX_CHANGES = 10;
    private static final int MAX_SIGNS = 60;
    private static final int MAX_DIGITS = 5;
    private static final int MAX_NUMBERS = 3;

    private static final int BIDDERS = 10;
    private static final int SELLERS = 6;
    private static final int HOUSE = 10;
    private static final int NOBODY = -1;

    private static final int TOP_QUANTITY = 20;
    private static final int TOP_RESERVE = 90000;
    private static final int TOP_BOUND = 90000;
    private static final int TOP_INCREMENT = 5000;
    private static final int TOP_CREDIT = 999999;
    private static final int FIRST_CREDIT = 20000;
    private static final int TOP_MAXIMUM = 90000;
    private static final int TOP_AMOUNT = 99999;
    private static final int LEAST_PARTS = 2;
    private static final int MOST_PARTS = 4;

    private static final int WAITING = 0;
    private static final int OPEN = 1;
    private static final int SOLD = 2;
    private static final int BOUGHT_IN = 3;
    private static final int WITHDRAWN = 4;
    private static final int SPLIT = 5;
    private static final int GROUPED = 6;

    private static final int ORDER_EVENT = 0;
    private static final int OPEN_EVENT = 1;
    private static final int BID_EVENT = 2;
    private static final int SALE_EVENT = 3;
    private static final int RETURN_EVENT = 4;
    private static final int WITHDRAWAL_EVENT = 5;
    private static final int SPLIT_EVENT = 6;
    private static final int GROUP_EVENT = 7;
    private static final int OFFER_EVENT = 8;
    private static final int CANCEL_EVENT = 9;

    private static final int NEVER_CLOSED = -1;
    private static final int WAS_SOLD = 0;
    private static final int NOBODY_LED = 1;
    private static final int HOUSE_LED = 2;
    private static final int BELOW_RESERVE = 3;

    private static final int NOT_REFUSED = 0;
    private static final int LOT_NOT_OPEN = 1;
    private static final int BIDDER_LEADS = 2;
    private static final int BELOW_ASK = 3;
    private static final int NO_STEP = 4;
    private static final int BID_ABOVE_CREDIT = 5;
    private static final int LOT_IS_OVER = 6;
    private static final int ORDER_NOT_BETTER = 7;
    private static final int ORDER_ABOVE_CREDIT = 8;
    private static final int TOO_MANY_ORDERS = 9;

    // What a command of a text can answer is never negative: so its faults can be, and a text
    // finds out that a command would throw without anything being thrown.
    private static final int NO_SUCH_PLACE = -1;
    private static final int BAD_ARGUMENT = -2;
    private static final int BAD_STATE = -3;
    private static final int NO_SUCH_ORDER = -4;
    private static final int REFUSED = -5;

    private static final int NO_FAULT = -1;

    private static final int[] FIRST_BOUNDS = {0, 100, 500, 2000};
    private static final int[] FIRST_INCREMENTS = {10, 20, 50, 100};

    private final Sale sale = new Sale();
    private final Standing view = new Standing();
    private final History history = new History();
    private final Text text = new Text();
    private Sale snapshot;
    private int latestReason = NOT_REFUSED;
    private int latestFault = NO_FAULT;

    public LotSales() {
    }

    // Lots and steps.

    public int addLot(int seller, int quantity, int reserve)
            throws IllegalArgumentException, IllegalStateException {
        needWithin(seller, 0, SELLERS - 1);
        needWithin(quantity, 1, TOP_QUANTITY);
        needWithin(reserve, 0, TOP_RESERVE);
        needRoomForLots(1);
        history.keep(sale);
        return sale.makeLot(seller, quantity, reserve);
    }

    public int lot(int lot, int what) throws IndexOutOfBoundsException, IllegalArgumentException {
        needLot(lot);
        needWithin(what, 0, 4);
        Lot chosen = sale.lots[lot];
        switch (what) {
            case 0:
                return chosen.state;
            case 1:
                return chosen.seller;
            case 2:
                return chosen.quantity;
            case 3:
                return chosen.reserve;
            default:
                return chosen.openings;
        }
    }

    public int lots(int state) throws IllegalArgumentException {
        needWithin(state, -1, GROUPED);
        return state == -1 ? sale.lotCount : sale.lotsIn(state);
    }

    public int setRows(int rows, int bound, int increment)
            throws IndexOutOfBoundsException, IllegalArgumentException, IllegalStateException {
        if (rows < 0 || rows >= MAX_ROWS || rows > sale.table.rows) {
            throw new IndexOutOfBoundsException("so many rows cannot stay");
        }
        needWithin(bound, 0, TOP_BOUND);
        needWithin(increment, 1, TOP_INCREMENT);
        if (!sale.table.canFollow(rows, bound)) {
            throw new IllegalArgumentException("the bounds do not ascend from 0");
        }
        if (sale.lotsIn(OPEN) > 0) {
            throw new IllegalStateException("a lot is open");
        }
        history.keep(sale);
        sale.table.putLast(rows, bound, increment);
        return sale.table.rows;
    }

    public int row(int row, int what) throws IndexOutOfBoundsException, IllegalArgumentException {
        if (row < 0 || row >= sale.table.rows) {
            throw new IndexOutOfBoundsException("no such row");
        }
        needWithin(what, 0, 1);
        return what == 0 ? sale.table.bounds[row] : sale.table.increments[row];
    }

    public int step(int amount) throws IllegalArgumentException {
        needWithin(amount, 0, TOP_AMOUNT);
        return sale.table.stepAt(amount);
    }

    public int nextStep(int amount) throws IllegalArgumentException {
        needWithin(amount, 0, TOP_AMOUNT);
        return sale.table.stepAfter(amount);
    }

    public int setCredit(int bidder, int credit)
            throws IndexOutOfBoundsException, IllegalArgumentException {
        needBidder(bidder);
        needWithin(credit, 0, TOP_CREDIT);
        history.keep(sale);
        int previous = sale.credits[bidder];
        sale.credits[bidder] = credit;
        return previous;
    }

    // Orders and bids.

    public int order(int lot, int bidder, int maximum)
            throws IndexOutOfBoundsException, IllegalArgumentException, UnsupportedOperationException {
        return answered(tryOrder(lot, bidder, maximum));
    }

    public int cancel(int lot, int bidder)
            throws IndexOutOfBoundsException, NoSuchElementException, IllegalStateException {
        return answered(tryCancel(lot, bidder));
    }

    public int maximum(int lot, int bidder) throws IndexOutOfBoundsException, NoSuchElementException {
        needLot(lot);
        needBidder(bidder);
        int maximum = sale.lots[lot].maximums[bidder];
        if (maximum == 0) {
            throw new NoSuchElementException("no such order");
        }
        return maximum;
    }

    public int orders(int lot) throws IndexOutOfBoundsException {
        if (lot == -1) {
            return sale.orderCount();
        }
        needLot(lot);
        return sale.lots[lot].orderCount();
    }

    public int open(int lot) throws IndexOutOfBoundsException, IllegalStateException {
        return answered(tryOpen(lot));
    }

    public int bid(int lot, int bidder, int amount)
            throws IndexOutOfBoundsException, IllegalArgumentException, UnsupportedOperationException {
        return answered(tryBid(lot, bidder, amount));
    }

    public int refusal() throws NoSuchElementException {
        if (latestReason == NOT_REFUSED) {
            throw new NoSuchElementException("nothing was refused");
        }
        return latestReason;
    }

    public int wouldRefuse(boolean isOrder, int lot, int bidder, int amount)
            throws IndexOutOfBoundsException, IllegalArgumentException {
        needLot(lot);
        needBidder(bidder);
        needWithin(amount, 1, TOP_MAXIMUM);
        Lot chosen = sale.lots[lot];
        return isOrder ? orderReason(chosen, bidder, amount) : bidReason(chosen, bidder, amount);
    }

    public int standing(int lot, int what)
            throws IndexOutOfBoundsException, IllegalArgumentException, IllegalStateException {
        needLot(lot);
        needWithin(what, 0, 6);
        Lot chosen = sale.lots[lot];
        needState(chosen, OPEN);
        view.settle(chosen, sale.table);
        switch (what) {
            case 0:
                return view.price(sale.table);
            case 1:
                return view.leader;
            case 2:
                return sale.table.stepAfter(view.price(sale.table));
            case 3:
                return view.meets(chosen.reserve, sale.table) ? 1 : 0;
            case 4:
                return view.leaderLimit;
            case 5:
                return view.secondLimit;
            default:
                return view.counting();
        }
    }

    public int limit(int lot, int rank, int what) throws IndexOutOfBoundsException,
            IllegalArgumentException, IllegalStateException, NoSuchElementException {
        needLot(lot);
        needWithin(what, 0, 2);
        Lot chosen = sale.lots[lot];
        needState(chosen, OPEN);
        view.settle(chosen, sale.table);
        int bidder = view.bidderAt(rank);
        if (bidder == NOBODY) {
            throw new NoSuchElementException("no such rank");
        }
        switch (what) {
            case 0:
                return bidder;
            case 1:
                return view.limits[bidder];
            default:
                return view.times[bidder];
        }
    }

    public int priceIf(int lot, int bidder, int amount)
            throws IndexOutOfBoundsException, IllegalArgumentException, IllegalStateException {
        needLot(lot);
        needBidder(bidder);
        needWithin(amount, 1, TOP_AMOUNT);
        if (!sale.table.isStep(amount)) {
            throw new IllegalArgumentException("the amount is not a step");
        }
        Lot chosen = sale.lots[lot];
        needState(chosen, OPEN);
        view.settle(chosen, sale.table);
        view.raise(bidder, amount, sale.numbers + 1);
        return view.price(sale.table);
    }

    // Closing.

    public int close(int lot) throws IndexOutOfBoundsException, IllegalStateException {
        return answered(tryClose(lot));
    }

    public int withdraw(int lot) throws IndexOutOfBoundsException, IllegalStateException {
        return answered(tryWithdraw(lot));
    }

    public int offer(int lot, int reserve)
            throws IndexOutOfBoundsException, IllegalArgumentException, IllegalStateException {
        needLot(lot);
        Lot chosen = sale.lots[lot];
        int previous = chosen.reserve;
        needWithin(reserve, 0, previous - 1);
        needState(chosen, BOUGHT_IN);
        history.keep(sale);
        chosen.reserve = reserve;
        chosen.state = WAITING;
        sale.ledger.note(OFFER_EVENT, lot, NOBODY, reserve);
        return previous;
    }

    public int split(int lot, int parts)
            throws IndexOutOfBoundsException, IllegalArgumentException, IllegalStateException {
        needLot(lot);
        Lot whole = sale.lots[lot];
        needWithin(parts, LEAST_PARTS, MOST_PARTS);
        needWithin(parts, LEAST_PARTS, whole.quantity);
        needState(whole, WAITING);
        needRoomForLots(parts);
        if (sale.orderCount() - whole.orderCount() + whole.ordersOfParts(parts) > MAX_ORDERS) {
            throw new IllegalStateException("too many orders");
        }
        history.keep(sale);
        int first = sale.lotCount;
        for (int part = 0; part < parts; part++) {
            sale.makePart(whole, whole.quantityOfPart(part, parts));
        }
        whole.state = SPLIT;
        whole.removeOrders();
        sale.ledger.note(SPLIT_EVENT, lot, NOBODY, first);
        return first;
    }

    public int group(int lot, int other)
            throws IndexOutOfBoundsException, IllegalArgumentException, IllegalStateException {
        needLot(lot);
        needLot(other);
        Lot one = sale.lots[lot];
        Lot two = sale.lots[other];
        if (lot == other || one.seller != two.seller) {
            throw new IllegalArgumentException("not two lots of one seller");
        }
        needWithin(one.quantity + two.quantity, 1, TOP_QUANTITY);
        needWithin(one.reserve + two.reserve, 0, TOP_RESERVE);
        needState(one, WAITING);
        needState(two, WAITING);
        needRoomForLots(1);
        history.keep(sale);
        int made = sale.makeGroup(one, two);
        one.state = GROUPED;
        two.state = GROUPED;
        one.removeOrders();
        two.removeOrders();
        sale.ledger.note(GROUP_EVENT, lot, NOBODY, made);
        return made;
    }

    public int why(int lot) throws IndexOutOfBoundsException, NoSuchElementException {
        needLot(lot);
        int reason = sale.lots[lot].closing;
        if (reason == NEVER_CLOSED) {
            throw new NoSuchElementException("the lot was not closed");
        }
        return reason;
    }

    public int sold(int lot, boolean isPrice) throws IndexOutOfBoundsException, NoSuchElementException {
        needLot(lot);
        Lot chosen = sale.lots[lot];
        if (chosen.state != SOLD) {
            throw new NoSuchElementException("the lot is not sold");
        }
        return isPrice ? chosen.price : chosen.buyer;
    }

    // Accounts.

    public int premium(int price) throws IllegalArgumentException {
        needWithin(price, 0, TOP_AMOUNT);
        return premiumOf(price);
    }

    public int bidder(int bidder, int what) throws IndexOutOfBoundsException, IllegalArgumentException {
        needBidder(bidder);
        needWithin(what, 0, 6);
        switch (what) {
            case 0:
                return sale.credits[bidder];
            case 1:
                return sale.pricesTo(bidder);
            case 2:
                return sale.premiumsOf(bidder);
            case 3:
                return sale.pricesTo(bidder) + sale.premiumsOf(bidder);
            case 4:
                return sale.lotsTo(bidder);
            case 5:
                return exposureOf(bidder);
            default:
                return leadsOf(bidder);
        }
    }

    public int seller(int seller, int what) throws IndexOutOfBoundsException, IllegalArgumentException {
        if (seller < 0 || seller >= SELLERS) {
            throw new IndexOutOfBoundsException("no such seller");
        }
        needWithin(what, 0, 5);
        switch (what) {
            case 0:
                return sale.pricesFor(seller);
            case 1:
                return sale.commissionsOf(seller);
            case 2:
                return sale.fees[seller];
            case 3:
                return sale.proceedsOf(seller);
            case 4:
                return sale.lotsOf(seller, SOLD);
            default:
                return sale.lotsOf(seller, BOUGHT_IN);
        }
    }

    public int house(int what) throws IllegalArgumentException {
        needWithin(what, 0, 3);
        int premiums = 0;
        for (int bidder = 0; bidder < BIDDERS; bidder++) {
            premiums += sale.premiumsOf(bidder);
        }
        int prices = 0;
        int proceeds = 0;
        for (int seller = 0; seller < SELLERS; seller++) {
            prices += sale.pricesFor(seller);
            proceeds += sale.proceedsOf(seller);
        }
        switch (what) {
            case 0:
                // What the sellers do not get of the prices are the commissions and fees.
                return premiums + prices - proceeds;
            case 1:
                return prices;
            case 2:
                return prices + premiums;
            default:
                return proceeds;
        }
    }

    public double soldShare() throws ArithmeticException {
        int sales = sale.ledger.countOf(SALE_EVENT);
        int closings = sales + sale.ledger.countOf(RETURN_EVENT);
        if (closings == 0) {
            throw new ArithmeticException("no lot was closed");
        }
        return (double) sales / (double) closings;
    }

    // Ledger, texts and changes.

    public int events(int kind) throws IllegalArgumentException {
        needWithin(kind, -1, CANCEL_EVENT);
        return kind == -1 ? sale.ledger.count : sale.ledger.countOf(kind);
    }

    public int event(int event, int what) throws IndexOutOfBoundsException, IllegalArgumentException {
        Ledger ledger = sale.ledger;
        if (event < 0 || event >= ledger.count) {
            throw new IndexOutOfBoundsException("no such event");
        }
        needWithin(what, 0, 3);
        switch (what) {
            case 0:
                return ledger.kinds[event];
            case 1:
                return ledger.lots[event];
            case 2:
                return ledger.bidders[event];
            default:
                return ledger.amounts[event];
        }
    }

    public int audit() {
        int differing = 0;
        for (int bidder = 0; bidder < BIDDERS; bidder++) {
            if (sale.ledger.pricesTo(bidder) != sale.pricesTo(bidder)) {
                differing++;
            }
        }
        for (int seller = 0; seller < SELLERS; seller++) {
            if (sale.feesInLedger(seller) != sale.fees[seller]) {
                differing++;
            }
        }
        return differing;
    }

    public void append(char c) throws IllegalStateException {
        if (text.length >= MAX_SIGNS) {
            throw new IllegalStateException("the buffer is full");
        }
        text.add(c);
    }

    public int read() throws IllegalArgumentException {
        latestFault = text.findFault();
        if (latestFault != NO_FAULT) {
            text.empty();
            throw new IllegalArgumentException("the text has a fault");
        }
        int done = 0;
        while (done < text.commands && text.readNext(done) && carryOut() >= 0) {
            done++;
        }
        text.empty();
        return done;
    }

    public int faultPosition() {
        return latestFault;
    }

    public int undo() throws IllegalStateException {
        if (history.count == 0) {
            throw new IllegalStateException("no change is kept");
        }
        history.giveBack(sale);
        return history.count;
    }

    public void save() {
        if (snapshot == null) {
            snapshot = new Sale();
        }
        snapshot.take(sale);
    }

    public void restore() throws IllegalStateException {
        if (snapshot == null) {
            throw new IllegalStateException("nothing was saved");
        }
        sale.take(snapshot);
        history.forget();
    }

    // Conditions.

    private void needLot(int lot) {
        if (!sale.has(lot)) {
            throw new IndexOutOfBoundsException("no such lot");
        }
    }

    private static void needBidder(int bidder) {
        if (!isBidder(bidder)) {
            throw new IndexOutOfBoundsException("no such bidder");
        }
    }

    private static void needWithin(int value, int least, int most) {
        if (value < least || value > most) {
            throw new IllegalArgumentException("an argument is out of range");
        }
    }

    private static void needState(Lot lot, int state) {
        if (lot.state != state) {
            throw new IllegalStateException("the state of the lot is another one");
        }
    }

    private void needRoomForLots(int more) {
        if (sale.lotCount + more > MAX_LOTS) {
            throw new IllegalStateException("too many lots");
        }
    }

    private static boolean isBidder(int bidder) {
        return bidder >= 0 && bidder < BIDDERS;
    }

    private static int answered(int answer) {
        switch (answer) {
            case NO_SUCH_PLACE:
                throw new IndexOutOfBoundsException("no such lot or bidder");
            case BAD_ARGUMENT:
                throw new IllegalArgumentException("an argument is out of range");
            case BAD_STATE:
                throw new IllegalStateException("the state of the lot is another one");
            case NO_SUCH_ORDER:
                throw new NoSuchElementException("no such order");
            case REFUSED:
                throw new UnsupportedOperationException("refused");
            default:
                return answer;
        }
    }

    // The commands of texts: each one answers as its call does, or with a fault.

    private int carryOut() {
        int lot = text.numbers[0];
        int bidder = text.numbers[1];
        int amount = text.numbers[2];
        switch (text.command) {
            case 'o':
                return tryOpen(lot);
            case 'h':
                return tryClose(lot);
            case 'w':
                return tryWithdraw(lot);
            case 'b':
                return tryBid(lot, bidder, amount);
            case 'a':
                return tryOrder(lot, bidder, amount);
            default:
                return tryCancel(lot, bidder);
        }
    }

    private int tryOrder(int lot, int bidder, int maximum) {
        if (!sale.has(lot) || !isBidder(bidder)) {
            return NO_SUCH_PLACE;
        }
        if (maximum < 1 || maximum > TOP_MAXIMUM) {
            return BAD_ARGUMENT;
        }
        Lot chosen = sale.lots[lot];
        int reason = orderReason(chosen, bidder, maximum);
        if (reason != NOT_REFUSED) {
            latestReason = reason;
            return REFUSED;
        }
        history.keep(sale);
        chosen.putOrder(bidder, maximum, sale.nextNumber());
        sale.ledger.note(ORDER_EVENT, lot, bidder, maximum);
        return sale.orderCount();
    }

    private int tryCancel(int lot, int bidder) {
        if (!sale.has(lot) || !isBidder(bidder)) {
            return NO_SUCH_PLACE;
        }
        Lot chosen = sale.lots[lot];
        int maximum = chosen.maximums[bidder];
        if (maximum == 0) {
            return NO_SUCH_ORDER;
        }
        if (chosen.state != WAITING) {
            return BAD_STATE;
        }
        history.keep(sale);
        chosen.putOrder(bidder, 0, 0);
        sale.ledger.note(CANCEL_EVENT, lot, bidder, maximum);
        return maximum;
    }

    private int tryOpen(int lot) {
        if (!sale.has(lot)) {
            return NO_SUCH_PLACE;
        }
        Lot chosen = sale.lots[lot];
        if (chosen.state != WAITING) {
            return BAD_STATE;
        }
        history.keep(sale);
        chosen.state = OPEN;
        chosen.openings++;
        chosen.removeBids();
        sale.ledger.note(OPEN_EVENT, lot, NOBODY, 0);
        view.settle(chosen, sale.table);
        return view.price(sale.table);
    }

    private int tryBid(int lot, int bidder, int amount) {
        if (!sale.has(lot) || !isBidder(bidder)) {
            return NO_SUCH_PLACE;
        }
        if (amount < 1 || amount > TOP_AMOUNT) {
            return BAD_ARGUMENT;
        }
        Lot chosen = sale.lots[lot];
        int reason = bidReason(chosen, bidder, amount);
        if (reason != NOT_REFUSED) {
            latestReason = reason;
            return REFUSED;
        }
        history.keep(sale);
        chosen.putBid(bidder, amount, sale.nextNumber());
        sale.ledger.note(BID_EVENT, lot, bidder, amount);
        view.settle(chosen, sale.table);
        return view.price(sale.table);
    }

    private int tryClose(int lot) {
        if (!sale.has(lot)) {
            return NO_SUCH_PLACE;
        }
        Lot chosen = sale.lots[lot];
        if (chosen.state != OPEN) {
            return BAD_STATE;
        }
        history.keep(sale);
        view.settle(chosen, sale.table);
        chosen.removeOrders();
        if (!view.meets(chosen.reserve, sale.table)) {
            buyIn(lot, chosen);
            return 0;
        }
        int price = view.price(sale.table);
        chosen.sell(view.leader, price);
        sale.ledger.note(SALE_EVENT, lot, view.leader, price);
        return price;
    }

    private int tryWithdraw(int lot) {
        if (!sale.has(lot)) {
            return NO_SUCH_PLACE;
        }
        Lot chosen = sale.lots[lot];
        if (chosen.state != WAITING) {
            return BAD_STATE;
        }
        history.keep(sale);
        int removed = chosen.orderCount();
        chosen.removeOrders();
        chosen.state = WITHDRAWN;
        sale.ledger.note(WITHDRAWAL_EVENT, lot, NOBODY, 0);
        return removed;
    }

    private void buyIn(int number, Lot lot) {
        int fee = feeOf(lot.reserve);
        lot.state = BOUGHT_IN;
        lot.closing = view.reasonBelowReserve();
        sale.fees[lot.seller] += fee;
        sale.ledger.note(RETURN_EVENT, number, NOBODY, fee);
    }

    // Reasons, exposures, and what is paid.

    private int orderReason(Lot lot, int bidder, int maximum) {
        if (lot.state != WAITING && lot.state != OPEN) {
            return LOT_IS_OVER;
        }
        if (lot.maximums[bidder] >= maximum) {
            return ORDER_NOT_BETTER;
        }
        if (maximum > sale.credits[bidder]) {
            return ORDER_ABOVE_CREDIT;
        }
        if (lot.maximums[bidder] == 0 && sale.orderCount() >= MAX_ORDERS) {
            return TOO_MANY_ORDERS;
        }
        return NOT_REFUSED;
    }

    private int bidReason(Lot lot, int bidder, int amount) {
        if (lot.state != OPEN) {
            return LOT_NOT_OPEN;
        }
        view.settle(lot, sale.table);
        if (view.leader == bidder) {
            return BIDDER_LEADS;
        }
        if (amount < sale.table.stepAfter(view.price(sale.table))) {
            return BELOW_ASK;
        }
        if (!sale.table.isStep(amount)) {
            return NO_STEP;
        }
        if (amount + exposureOf(bidder) > sale.credits[bidder]) {
            return BID_ABOVE_CREDIT;
        }
        return NOT_REFUSED;
    }

    private int exposureOf(int bidder) {
        int exposure = sale.pricesTo(bidder);
        for (int lot = 0; lot < sale.lotCount; lot++) {
            Lot each = sale.lots[lot];
            if (each.state != OPEN) {
                continue;
            }
            view.settle(each, sale.table);
            if (view.leader == bidder) {
                exposure += view.leaderLimit;
            }
        }
        return exposure;
    }

    private int leadsOf(int bidder) {
        int count = 0;
        for (int lot = 0; lot < sale.lotCount; lot++) {
            Lot each = sale.lots[lot];
            if (each.state != OPEN) {
                continue;
            }
            view.settle(each, sale.table);
            if (view.leader == bidder) {
                count++;
            }
        }
        return count;
    }

    private static int premiumOf(int price) {
        int low = Math.min(price, 1000);
        int middle = Math.min(price, 5000) - low;
        int high = price - middle - low;
        return low * 25 / 100 + middle * 20 / 100 + high * 12 / 100;
    }

    private static int commissionOf(int price) {
        return Math.min(price, Math.max(5, price / 10));
    }

    private static int feeOf(int reserve) {
        return reserve * 2 / 100;
    }

    /** The table of increments. */
    private static final class Table {
        final int[] bounds = new int[MAX_ROWS];
        final int[] increments = new int[MAX_ROWS];
        int rows;

        Table() {
            rows = FIRST_BOUNDS.length;
            System.arraycopy(FIRST_BOUNDS, 0, bounds, 0, FIRST_BOUNDS.length);
            System.arraycopy(FIRST_INCREMENTS, 0, increments, 0, FIRST_INCREMENTS.length);
        }

        void take(Table other) {
            rows = other.rows;
            System.arraycopy(other.bounds, 0, bounds, 0, MAX_ROWS);
            System.arraycopy(other.increments, 0, increments, 0, MAX_ROWS);
        }

        boolean canFollow(int stay, int bound) {
            return stay == 0 ? bound == 0 : bound > bounds[stay - 1];
        }

        void putLast(int row, int bound, int increment) {
            bounds[row] = bound;
            increments[row] = increment;
            rows = row + 1;
        }

        int stepAt(int amount) {
            // 0 is no step, but the first step follows it as if it were one.
            int step = 0;
            for (int row = 0; row < rows; row++) {
                int width = Math.max(1, increments[row]);
                int fitting = (amount - step) / width;
                if (row + 1 == rows) {
                    return step + fitting * width;
                }
                // A row lasts until a step reaches the next bound, which may be several rows away.
                int distance = Math.max(0, bounds[row + 1] - step);
                int lasting = (distance + width - 1) / width;
                if (fitting < lasting) {
                    return step + fitting * width;
                }
                step += lasting * width;
            }
            return step;
        }

        int stepAfter(int amount) {
            int step = stepAt(amount);
            int increment = increments[0];
            for (int row = 1; row < rows; row++) {
                if (bounds[row] <= step) {
                    increment = increments[row];
                }
            }
            return step + increment;
        }

        boolean isStep(int amount) {
            return amount > 0 && stepAt(amount) == amount;
        }
    }

    /** A lot with its orders and live bids, a place for each bidder; 0 where there is none. */
    private static final class Lot {
        final int[] maximums = new int[BIDDERS];
        final int[] orderNumbers = new int[BIDDERS];
        final int[] bids = new int[BIDDERS];
        final int[] bidNumbers = new int[BIDDERS];
        int state;
        int seller;
        int quantity;
        int reserve;
        int openings;
        int closing;
        int buyer;
        int price;

        void begin(int newSeller, int newQuantity, int newReserve) {
            state = WAITING;
            seller = newSeller;
            quantity = newQuantity;
            reserve = newReserve;
            openings = 0;
            closing = NEVER_CLOSED;
            buyer = NOBODY;
            price = 0;
            removeOrders();
            removeBids();
        }

        void take(Lot other) {
            state = other.state;
            seller = other.seller;
            quantity = other.quantity;
            reserve = other.reserve;
            openings = other.openings;
            closing = other.closing;
            buyer = other.buyer;
            price = other.price;
            System.arraycopy(other.maximums, 0, maximums, 0, BIDDERS);
            System.arraycopy(other.orderNumbers, 0, orderNumbers, 0, BIDDERS);
            System.arraycopy(other.bids, 0, bids, 0, BIDDERS);
            System.arraycopy(other.bidNumbers, 0, bidNumbers, 0, BIDDERS);
        }

        void putOrder(int bidder, int maximum, int number) {
            maximums[bidder] = maximum;
            orderNumbers[bidder] = number;
        }

        void putBid(int bidder, int amount, int number) {
            // A bid that is not refused is above the own limit: so it is the greatest one so far.
            bids[bidder] = amount;
            bidNumbers[bidder] = number;
        }

        int orderCount() {
            int count = 0;
            for (int bidder = 0; bidder < BIDDERS; bidder++) {
                if (maximums[bidder] > 0) {
                    count++;
                }
            }
            return count;
        }

        void removeOrders() {
            for (int bidder = 0; bidder < BIDDERS; bidder++) {
                putOrder(bidder, 0, 0);
            }
        }

        void removeBids() {
            for (int bidder = 0; bidder < BIDDERS; bidder++) {
                putBid(bidder, 0, 0);
            }
        }

        void sell(int newBuyer, int newPrice) {
            state = SOLD;
            closing = WAS_SOLD;
            buyer = newBuyer;
            price = newPrice;
        }

        int quantityOfPart(int part, int parts) {
            if (parts <= 0) {
                return 0;
            }
            return quantity / parts + (part < quantity % parts ? 1 : 0);
        }

        int share(int amount, int partQuantity) {
            return quantity <= 0 ? 0 : amount * partQuantity / quantity;
        }

        int ordersOfParts(int parts) {
            int count = 0;
            for (int part = 0; part < parts; part++) {
                int partQuantity = quantityOfPart(part, parts);
                for (int bidder = 0; bidder < BIDDERS; bidder++) {
                    if (share(maximums[bidder], partQuantity) > 0) {
                        count++;
                    }
                }
            }
            return count;
        }
    }

    /** The first events of the sale. */
    private static final class Ledger {
        final int[] kinds = new int[MAX_EVENTS];
        final int[] lots = new int[MAX_EVENTS];
        final int[] bidders = new int[MAX_EVENTS];
        final int[] amounts = new int[MAX_EVENTS];
        int count;

        void take(Ledger other) {
            count = other.count;
            System.arraycopy(other.kinds, 0, kinds, 0, other.count);
            System.arraycopy(other.lots, 0, lots, 0, other.count);
            System.arraycopy(other.bidders, 0, bidders, 0, other.count);
            System.arraycopy(other.amounts, 0, amounts, 0, other.count);
        }

        void note(int kind, int lot, int bidder, int amount) {
            if (count >= MAX_EVENTS) {
                return;
            }
            kinds[count] = kind;
            lots[count] = lot;
            bidders[count] = bidder;
            amounts[count] = amount;
            count++;
        }

        int countOf(int kind) {
            int found = 0;
            for (int event = 0; event < count; event++) {
                if (kinds[event] == kind) {
                    found++;
                }
            }
            return found;
        }

        int pricesTo(int bidder) {
            int sum = 0;
            for (int event = 0; event < count; event++) {
                if (kinds[event] == SALE_EVENT && bidders[event] == bidder) {
                    sum += amounts[event];
                }
            }
            return sum;
        }
    }

    /** All that a change changes, and that undo and restore bring back. */
    private static final class Sale {
        final Table table = new Table();
        final int[] credits = new int[BIDDERS];
        final int[] fees = new int[SELLERS];
        final Lot[] lots = new Lot[MAX_LOTS];
        final Ledger ledger = new Ledger();
        int lotCount;
        int numbers;

        Sale() {
            for (int bidder = 0; bidder < BIDDERS; bidder++) {
                credits[bidder] = FIRST_CREDIT;
            }
            for (int lot = 0; lot < MAX_LOTS; lot++) {
                lots[lot] = new Lot();
            }
        }

        void take(Sale other) {
            table.take(other.table);
            System.arraycopy(other.credits, 0, credits, 0, BIDDERS);
            System.arraycopy(other.fees, 0, fees, 0, SELLERS);
            // The places behind the last lot need no copy: a new lot begins with nothing of before.
            for (int lot = 0; lot < other.lotCount; lot++) {
                lots[lot].take(other.lots[lot]);
            }
            ledger.take(other.ledger);
            lotCount = other.lotCount;
            numbers = other.numbers;
        }

        boolean has(int lot) {
            return lot >= 0 && lot < lotCount;
        }

        int nextNumber() {
            numbers++;
            return numbers;
        }

        int makeLot(int seller, int quantity, int reserve) {
            int made = lotCount;
            lots[made].begin(seller, quantity, reserve);
            lotCount++;
            return made;
        }

        void makePart(Lot whole, int quantity) {
            int made = makeLot(whole.seller, quantity, whole.share(whole.reserve, quantity));
            for (int bidder = 0; bidder < BIDDERS; bidder++) {
                int maximum = whole.share(whole.maximums[bidder], quantity);
                if (maximum > 0) {
                    lots[made].putOrder(bidder, maximum, nextNumber());
                }
            }
        }

        int makeGroup(Lot one, Lot two) {
            int made = makeLot(one.seller, one.quantity + two.quantity, one.reserve + two.reserve);
            for (int bidder = 0; bidder < BIDDERS; bidder++) {
                if (one.maximums[bidder] > 0 && two.maximums[bidder] > 0) {
                    int sum = one.maximums[bidder] + two.maximums[bidder];
                    lots[made].putOrder(bidder, Math.min(sum, TOP_MAXIMUM), nextNumber());
                }
            }
            return made;
        }

        int orderCount() {
            int count = 0;
            for (int lot = 0; lot < lotCount; lot++) {
                count += lots[lot].orderCount();
            }
            return count;
        }

        int lotsIn(int state) {
            int count = 0;
            for (int lot = 0; lot < lotCount; lot++) {
                if (lots[lot].state == state) {
                    count++;
                }
            }
            return count;
        }

        int lotsTo(int bidder) {
            int count = 0;
            for (int lot = 0; lot < lotCount; lot++) {
                if (isSoldTo(lot, bidder)) {
                    count++;
                }
            }
            return count;
        }

        int pricesTo(int bidder) {
            int sum = 0;
            for (int lot = 0; lot < lotCount; lot++) {
                if (isSoldTo(lot, bidder)) {
                    sum += lots[lot].price;
                }
            }
            return sum;
        }

        int premiumsOf(int bidder) {
            int sum = 0;
            for (int lot = 0; lot < lotCount; lot++) {
                if (isSoldTo(lot, bidder)) {
                    sum += premiumOf(lots[lot].price);
                }
            }
            return sum;
        }

        boolean isSoldTo(int lot, int bidder) {
            return lots[lot].state == SOLD && lots[lot].buyer == bidder;
        }

        int lotsOf(int seller, int state) {
            int count = 0;
            for (int lot = 0; lot < lotCount; lot++) {
                if (lots[lot].seller == seller && lots[lot].state == state) {
                    count++;
                }
            }
            return count;
        }

        int pricesFor(int seller) {
            int sum = 0;
            for (int lot = 0; lot < lotCount; lot++) {
                if (lots[lot].seller == seller && lots[lot].state == SOLD) {
                    sum += lots[lot].price;
                }
            }
            return sum;
        }

        int commissionsOf(int seller) {
            int sum = 0;
            for (int lot = 0; lot < lotCount; lot++) {
                if (lots[lot].seller == seller && lots[lot].state == SOLD) {
                    sum += commissionOf(lots[lot].price);
                }
            }
            return sum;
        }

        int proceedsOf(int seller) {
            return pricesFor(seller) - commissionsOf(seller) - fees[seller];
        }

        int feesInLedger(int seller) {
            int sum = 0;
            for (int event = 0; event < ledger.count; event++) {
                int lot = ledger.lots[event];
                if (ledger.kinds[event] == RETURN_EVENT && has(lot) && lots[lot].seller == seller) {
                    sum += ledger.amounts[event];
                }
            }
            return sum;
        }
    }

    /** The limits on an open lot and who leads; made once, and settled anew for each lot that is looked at. */
    private static final class Standing {
        final int[] limits = new int[BIDDERS];
        final int[] times = new int[BIDDERS];
        int houseLimit;
        int leader;
        int leaderLimit;
        int secondLimit;

        void settle(Lot lot, Table table) {
            for (int bidder = 0; bidder < BIDDERS; bidder++) {
                int ordered = table.stepAt(lot.maximums[bidder]);
                int bid = lot.bids[bidder];
                limits[bidder] = Math.max(ordered, bid);
                if (ordered == bid) {
                    times[bidder] = Math.min(lot.orderNumbers[bidder], lot.bidNumbers[bidder]);
                } else {
                    times[bidder] = ordered > bid ? lot.orderNumbers[bidder] : lot.bidNumbers[bidder];
                }
            }
            houseLimit = lot.reserve > 0 ? table.stepAt(lot.reserve - 1) : 0;
            findLeader();
        }

        void raise(int bidder, int amount, int time) {
            if (amount > limits[bidder]) {
                limits[bidder] = amount;
                times[bidder] = time;
                findLeader();
            }
        }

        void findLeader() {
            int best = NOBODY;
            int bestLimit = 0;
            int others = 0;
            for (int bidder = 0; bidder < BIDDERS; bidder++) {
                if (limits[bidder] > 0 && (best == NOBODY || isAhead(bidder, best))) {
                    others = bestLimit;
                    best = bidder;
                    bestLimit = limits[bidder];
                } else {
                    others = Math.max(others, limits[bidder]);
                }
            }
            if (houseLimit > bestLimit) {
                leader = HOUSE;
                leaderLimit = houseLimit;
                secondLimit = bestLimit;
            } else {
                leader = best;
                leaderLimit = bestLimit;
                secondLimit = Math.max(houseLimit, others);
            }
        }

        boolean isAhead(int bidder, int other) {
            if (limits[bidder] != limits[other]) {
                return limits[bidder] > limits[other];
            }
            return times[bidder] < times[other];
        }

        int price(Table table) {
            return leader == NOBODY ? 0 : Math.min(leaderLimit, table.stepAfter(secondLimit));
        }

        boolean meets(int reserve, Table table) {
            return leader != NOBODY && leader != HOUSE && price(table) >= reserve;
        }

        int reasonBelowReserve() {
            if (leader == NOBODY) {
                return NOBODY_LED;
            }
            return leader == HOUSE ? HOUSE_LED : BELOW_RESERVE;
        }

        int counting() {
            int count = 0;
            for (int bidder = 0; bidder < BIDDERS; bidder++) {
                if (limits[bidder] > 0) {
                    count++;
                }
            }
            return count;
        }

        int bidderAt(int rank) {
            for (int bidder = 0; bidder < BIDDERS; bidder++) {
                if (limits[bidder] > 0 && aheadOf(bidder) == rank) {
                    return bidder;
                }
            }
            return NOBODY;
        }

        int aheadOf(int bidder) {
            int count = 0;
            for (int other = 0; other < BIDDERS; other++) {
                if (other != bidder && limits[other] > 0 && isAhead(other, bidder)) {
                    count++;
                }
            }
            return count;
        }
    }

    /** The sales before the latest changes, in a ring whose places are made when first needed. */
    private static final class History {
        final Sale[] kept = new Sale[MAX_CHANGES];
        int next;
        int count;

        void keep(Sale sale) {
            if (kept[next] == null) {
                kept[next] = new Sale();
            }
            kept[next].take(sale);
            next = (next + 1) % MAX_CHANGES;
            count = Math.min(count + 1, MAX_CHANGES);
        }

        void giveBack(Sale sale) {
            int latest = (next + MAX_CHANGES - 1) % MAX_CHANGES;
            if (count == 0 || kept[latest] == null) {
                return;
            }
            sale.take(kept[latest]);
            next = latest;
            count--;
        }

        void forget() {
            count = 0;
        }
    }

    /** The text buffer, and the command in it that was read last. */
    private static final class Text {
        final char[] signs = new char[MAX_SIGNS];
        final int[] numbers = new int[MAX_NUMBERS];
        int length;
        int at;
        int commands;
        char command;

        void add(char sign) {
            if (length < MAX_SIGNS) {
                signs[length] = sign;
                length++;
            }
        }

        void empty() {
            length = 0;
        }

        int findFault() {
            at = 0;
            for (int count = 1; count <= MAX_SIGNS; count++) {
                if (!readCommand()) {
                    return at;
                }
                if (at == length) {
                    commands = count;
                    return NO_FAULT;
                }
                if (!passes(';')) {
                    return at;
                }
            }
            return at;
        }

        /** Reads the command after so many commands have been read; the text has no fault. */
        boolean readNext(int before) {
            if (before == 0) {
                at = 0;
                return readCommand();
            }
            return passes(';') && readCommand();
        }

        /** Ends behind the command or, if it has a fault, at the fault. */
        boolean readCommand() {
            int count = at < length ? numbersBehind(signs[at]) : 0;
            if (count == 0) {
                return false;
            }
            command = signs[at];
            at++;
            for (int place = 0; place < count; place++) {
                if (place > 0 && !passes(',')) {
                    return false;
                }
                if (!readNumber(place)) {
                    return false;
                }
            }
            return true;
        }

        boolean readNumber(int place) {
            int value = 0;
            int digits = 0;
            while (digits < MAX_DIGITS && at < length && signs[at] >= '0' && signs[at] <= '9') {
                value = value * 10 + (signs[at] - '0');
                digits++;
                at++;
            }
            numbers[place] = value;
            return digits > 0;
        }

        boolean passes(char sign) {
            if (at >= length || signs[at] != sign) {
                return false;
            }
            at++;
            return true;
        }

        static int numbersBehind(char letter) {
            switch (letter) {
                case 'o':
                case 'h':
                case 'w':
                    return 1;
                case 'c':
                    return 2;
                case 'b':
                case 'a':
                    return 3;
                default:
                    return 0;
            }
        }
    }
}

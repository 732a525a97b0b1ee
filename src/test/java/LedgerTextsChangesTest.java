/** Promises 33 to 41. */
public final class LedgerTextsChangesTest {
    private static final Class<IllegalArgumentException> ARGUMENT = IllegalArgumentException.class;
    private static final Class<IllegalStateException> STATE = IllegalStateException.class;
    private static final Class<IndexOutOfBoundsException> INDEX = IndexOutOfBoundsException.class;

    private LedgerTextsChangesTest() {
    }

    private static void append(LotSales x, String text) {
        for (char c : text.toCharArray()) {
            x.append(c);
        }
    }

    private static void fault(String text, int position) {
        LotSales x = new LotSales();
        x.addLot(0, 1, 0);
        append(x, text);
        Expect.fails("read of '" + text + "'", ARGUMENT, x::read);
        Expect.due("fault position of '" + text + "'", x.faultPosition(), position);
        Expect.due("nothing of '" + text + "' is carried out", x.lot(0, 0), 0);
    }

    private static void read(LotSales x, String text, int done) {
        append(x, text);
        Expect.due("read of '" + text + "'", x.read(), done);
        Expect.due("fault position of '" + text + "'", x.faultPosition(), -1);
    }

    private static void eventsOfEachKind() {
        LotSales x = new LotSales();
        Expect.due("events(-1)", x.events(-1), 0);
        x.addLot(0, 4, 50);
        x.addLot(0, 4, 60);
        x.addLot(0, 1, 70);
        x.order(0, 1, 40);
        x.order(0, 1, 44);
        x.order(0, 2, 30);
        x.cancel(0, 2);
        x.split(0, 2);
        x.group(4, 3);
        x.withdraw(5);
        x.open(1);
        x.close(1);
        x.offer(1, 20);
        x.open(1);
        x.bid(1, 8, 30);
        x.close(1);
        int[][] want = {{0, 0, 1, 40}, {0, 0, 1, 44}, {0, 0, 2, 30}, {9, 0, 2, 30}, {6, 0, -1, 3},
            {7, 4, -1, 5}, {5, 5, -1, 0}, {1, 1, -1, 0}, {4, 1, -1, 1}, {8, 1, -1, 20}, {1, 1, -1, 0},
            {2, 1, 8, 30}, {3, 1, 8, 20}};
        Expect.due("all events", x.events(-1), want.length);
        for (int event = 0; event < want.length; event++) {
            for (int what = 0; what < 4; what++) {
                Expect.due("event(" + event + ", " + what + ")", x.event(event, what), want[event][what]);
            }
        }
        int[] counts = {3, 2, 1, 1, 1, 1, 1, 1, 1, 1};
        for (int kind = 0; kind <= 9; kind++) {
            Expect.due("events(" + kind + ")", x.events(kind), counts[kind]);
        }
        Expect.fails("events(-2)", ARGUMENT, () -> x.events(-2));
        Expect.fails("events(10)", ARGUMENT, () -> x.events(10));
        Expect.fails("event(-1, 0)", INDEX, () -> x.event(-1, 0));
        Expect.fails("event(13, 9)", INDEX, () -> x.event(13, 9));
        Expect.fails("event(0, 4)", ARGUMENT, () -> x.event(0, 4));
        Expect.fails("event(0, -1)", ARGUMENT, () -> x.event(0, -1));
    }

    private static void fullLedger() {
        LotSales x = new LotSales();
        x.addLot(0, 1, 1000);
        x.addLot(1, 1, 0);
        x.addLot(2, 1, 1000);
        x.open(0);
        x.close(0);
        x.open(1);
        x.open(2);
        for (int i = 0; i < 245; i++) {
            x.order(1, 3, 100 + i);
        }
        Expect.due("249 events", x.events(-1), 249);
        x.order(1, 3, 1000);
        Expect.due("the 250th event", x.event(249, 3), 1000);
        Expect.due("audit so far", x.audit(), 0);
        Expect.due("closing still sells", x.close(1), 10);
        Expect.due("no 251st event", x.events(-1), 250);
        Expect.due("no event of the sale", x.events(3), 0);
        Expect.due("soldShare of the ledger", x.soldShare(), 0.0);
        Expect.due("a bidder differs", x.audit(), 1);
        x.close(2);
        Expect.due("a bidder and a seller differ", x.audit(), 2);
        x.undo();
        x.undo();
        Expect.due("undone", x.audit(), 0);
        x.undo();
        x.undo();
        Expect.due("events after undo", x.events(-1), 248);
        Expect.due("back again", x.order(1, 3, 999), 1);
        Expect.due("the 249th event now", x.event(248, 3), 999);
        x.order(1, 3, 1000);
        x.undo();
        Expect.due("one event less", x.events(-1), 249);
        Expect.due("the share before", x.soldShare(), 0.0);
    }

    private static void audit() {
        LotSales x = new LotSales();
        Expect.due("audit at first", x.audit(), 0);
        for (int i = 0; i < 3; i++) {
            x.addLot(i, 1, 500);
            x.open(i);
        }
        x.bid(0, 4, 500);
        x.bid(1, 4, 500);
        for (int i = 0; i < 3; i++) {
            x.close(i);
        }
        Expect.due("audit", x.audit(), 0);
    }

    private static void appendChars() {
        LotSales x = new LotSales();
        for (int i = 0; i < 60; i++) {
            x.append((char) (i == 0 ? 0xffff : 0));
        }
        Expect.fails("the 61st character", STATE, () -> x.append('o'));
        Expect.fails("read", ARGUMENT, x::read);
        Expect.due("fault", x.faultPosition(), 0);
        x.append('o');
        Expect.fails("read of the next text", ARGUMENT, x::read);
        Expect.due("the buffer was emptied", x.faultPosition(), 1);
    }

    private static void faults() {
        fault("", 0);
        fault("o", 1);
        fault("x0", 0);
        fault("O0", 0);
        fault(" o0", 0);
        fault("o0 ", 2);
        fault("o0;", 3);
        fault("o0;;o1", 3);
        fault(";o0", 0);
        fault("o0,1", 2);
        fault("oo", 1);
        fault("o-1", 1);
        fault("o000000", 6);
        fault("o00000;h0x", 9);
        fault("b0", 2);
        fault("b0,1", 4);
        fault("b0,1,", 5);
        fault("b0,1,1,", 6);
        fault("b0;1", 2);
        fault("b,1,1", 1);
        fault("a0,1,123456", 10);
        fault("a0,,1", 3);
        fault("c0", 2);
        fault("c0,", 3);
        fault("c0,1,1", 4);
        fault("w/", 1);
        fault("w:", 1);
        fault("o0;h" + (char) 0x0663, 4);
    }

    private static void longestFaults() {
        StringBuilder text = new StringBuilder("o0");
        while (text.length() < 59) {
            text.append(";o0");
        }
        fault(text + ";", 60);
        fault(text + "/", 59);
        LotSales x = new LotSales();
        x.addLot(0, 1, 0);
        read(x, text.toString(), 1);
    }

    private static void nothingIsReadOfTheTextBefore() {
        LotSales x = new LotSales();
        read(x, "b0,1,10;o1", 0);
        append(x, "b0");
        Expect.fails("a text that ends too early behind a longer one", ARGUMENT, x::read);
        Expect.due("its end", x.faultPosition(), 2);
        read(x, "o0", 0);
        append(x, "o");
        Expect.fails("a letter alone", ARGUMENT, x::read);
        Expect.due("its end", x.faultPosition(), 1);
    }

    private static void readCommands() {
        LotSales x = new LotSales();
        x.addLot(0, 1, 0);
        x.addLot(0, 1, 50);
        read(x, "a1,2,00100;a0,5,30;c0,5;o00000;o1;b0,3,500;b0,4,00020", 7);
        Expect.due("the limit of the order", x.standing(1, 4), 100);
        Expect.due("the price of the other", x.standing(0, 0), 30);
        Expect.due("orders", x.orders(-1), 1);
        read(x, "h0;h1;w1", 2);
        Expect.due("sold to", x.sold(0, false), 3);
        Expect.due("sold too", x.sold(1, true), 50);
        Expect.due("of 11 changes 10 are kept", x.undo(), 9);
        Expect.due("each command is a change", x.lot(1, 0), 1);
        x.addLot(1, 1, 0);
        read(x, "w2;w2", 1);
        Expect.due("withdrawn", x.lot(2, 0), 4);
        read(x, "o9;w0", 0);
        read(x, "o99999", 0);
        read(x, "b1,10,60", 0);
        read(x, "b1,0,0", 0);
        read(x, "a1,0,90001", 0);
        read(x, "c1,0;h1", 0);
        read(x, "c1,2;h1", 0);
        Expect.due("the open lot is still open", x.lot(1, 0), 1);
        read(x, "h2", 0);
        read(x, "w1", 0);
    }

    private static void refusedInText() {
        LotSales x = new LotSales();
        x.addLot(0, 1, 0);
        read(x, "b0,1,10;o0", 0);
        Expect.due("the reason of a bid", x.refusal(), 1);
        read(x, "a0,1,50;a0,1,50;o0", 1);
        Expect.due("the reason of an order", x.refusal(), 7);
        Expect.due("one order", x.orders(0), 1);
    }

    private static void faultPosition() {
        LotSales x = new LotSales();
        Expect.due("before read", x.faultPosition(), -1);
        append(x, "ob");
        Expect.due("before read, with a text", x.faultPosition(), -1);
        Expect.fails("read", ARGUMENT, x::read);
        Expect.due("after read", x.faultPosition(), 1);
        x.addLot(0, 1, 0);
        Expect.due("it stays", x.faultPosition(), 1);
        x.save();
        x.undo();
        x.restore();
        Expect.due("it does not belong to the sale", x.faultPosition(), 1);
        read(x, "o5", 0);
    }

    private static void undo() {
        LotSales x = new LotSales();
        for (int i = 1; i <= 12; i++) {
            x.setCredit(0, i);
        }
        for (int i = 9; i >= 5; i--) {
            Expect.due("undo, changes left", x.undo(), i);
            Expect.due("the credit", x.bidder(0, 0), i + 2);
        }
        x.setCredit(1, 5);
        for (int i = 5; i >= 0; i--) {
            Expect.due("undo, changes left then", x.undo(), i);
        }
        Expect.due("the credit before the latest ten", x.bidder(0, 0), 2);
        Expect.due("the other credit", x.bidder(1, 0), 20000);
        Expect.fails("undo", STATE, x::undo);
        Expect.due("nothing is changed", x.bidder(0, 0), 2);
    }

    private static void undoOfEachChange() {
        LotSales x = new LotSales();
        x.addLot(0, 4, 100);
        Expect.due("undo addLot", x.undo(), 0);
        Expect.due("no lot", x.lots(-1), 0);
        x.addLot(0, 4, 100);
        x.order(0, 0, 500);
        x.order(0, 0, 600);
        x.undo();
        Expect.due("undo order", x.maximum(0, 0), 500);
        x.cancel(0, 0);
        x.undo();
        Expect.due("undo cancel", x.maximum(0, 0), 500);
        x.open(0);
        x.bid(0, 1, 200);
        x.undo();
        Expect.due("undo bid", x.standing(0, 6), 1);
        x.close(0);
        Expect.due("sold", x.house(1), 100);
        x.undo();
        Expect.due("undo close", x.house(1), 0);
        Expect.due("undo close, the orders", x.orders(0), 1);
        x.undo();
        Expect.due("undo open", x.lot(0, 4), 0);
        x.withdraw(0);
        x.undo();
        Expect.due("undo withdraw", x.lot(0, 0), 0);
        x.setRows(1, 7, 7);
        x.undo();
        Expect.due("undo setRows", x.row(3, 1), 100);
        x.cancel(0, 0);
        x.open(0);
        x.close(0);
        x.offer(0, 50);
        Expect.due("fees", x.seller(0, 2), 2);
        x.undo();
        Expect.due("undo offer", x.lot(0, 3), 100);
        x.undo();
        Expect.due("undo buying in", x.seller(0, 2), 0);
        Expect.due("the ledger", x.events(-1), 3);
    }

    private static void saveAndRestore() {
        LotSales x = new LotSales();
        Expect.fails("restore without a snapshot", STATE, x::restore);
        x.addLot(0, 1, 0);
        x.order(0, 1, 50);
        x.save();
        Expect.due("save forgets no change", x.undo(), 1);
        x.open(0);
        x.bid(0, 2, 10);
        append(x, "o");
        x.restore();
        Expect.due("the order", x.maximum(0, 1), 50);
        Expect.due("waiting", x.lot(0, 0), 0);
        Expect.due("the ledger", x.events(-1), 1);
        Expect.due("the kind", x.event(0, 0), 0);
        Expect.fails("restore forgets the changes", STATE, x::undo);
        append(x, "0");
        Expect.due("the text does not belong to the sale", x.read(), 1);
        x.restore();
        Expect.due("the snapshot is kept", x.lot(0, 0), 0);
        Expect.fails("restore is no change", STATE, x::undo);
        x.order(0, 2, 70);
        x.save();
        x.withdraw(0);
        x.restore();
        Expect.due("a later snapshot", x.orders(0), 2);
        x.open(0);
        Expect.due("the numbers", x.limit(0, 0, 2), 2);
        Expect.due("changes after restore", x.undo(), 0);
    }

    private static void auditOfTheFirst() {
        LotSales x = new LotSales();
        x.addLot(0, 1, 500);
        x.addLot(0, 1, 0);
        for (int i = 0; i < 247; i++) {
            x.order(1, 0, 100 + i);
        }
        x.open(0);
        x.open(1);
        x.order(1, 0, 1000);
        x.close(0);
        Expect.due("seller 0 differs", x.audit(), 1);
        x.close(1);
        Expect.due("bidder 0 differs too", x.audit(), 2);
    }

    private static void firstEventsAreClosings() {
        LotSales x = new LotSales();
        x.addLot(0, 1, 500);
        read(x, "o0;h0", 2);
        for (int event = 0; event < 2; event++) {
            Expect.due("kind of " + event, x.event(event, 0), event == 0 ? 1 : 4);
        }
        Expect.due("audit", x.audit(), 0);
    }

    private static void restoreAfterOtherEvents() {
        LotSales x = new LotSales();
        x.save();
        x.addLot(1, 2, 3);
        x.setRows(2, 700, 70);
        x.order(0, 5, 60);
        x.open(0);
        x.bid(0, 6, 80);
        x.close(0);
        x.restore();
        Expect.due("the table", x.row(3, 0), 2000);
        Expect.due("a bound", x.row(2, 0), 500);
        Expect.due("an increment", x.row(2, 1), 50);
        x.addLot(4, 5, 6);
        int[] fresh = {0, 4, 5, 6, 0};
        for (int what = 0; what <= 4; what++) {
            Expect.due("a new lot in place of another, " + what, x.lot(0, what), fresh[what]);
        }
        Expect.due("it has no orders", x.orders(0), 0);
        Expect.fails("it was not closed", java.util.NoSuchElementException.class, () -> x.why(0));
        Expect.fails("it is not sold", java.util.NoSuchElementException.class, () -> x.sold(0, true));
        Expect.due("it has no bids", x.open(0), 0);
        Expect.due("no limits", x.standing(0, 6), 0);
        x.order(0, 7, 90);
        x.bid(0, 8, 40);
        x.close(0);
        x.save();
        for (int i = 0; i < 5; i++) {
            x.undo();
        }
        x.addLot(2, 9, 999);
        x.setRows(0, 0, 9);
        x.open(0);
        x.close(0);
        x.offer(0, 77);
        x.open(0);
        x.restore();
        int[][] events = {{1, 0, -1, 0}, {0, 0, 7, 90}, {2, 0, 8, 40}, {3, 0, 7, 50}};
        for (int event = 0; event < 4; event++) {
            for (int what = 0; what < 4; what++) {
                Expect.due("event " + event + ", " + what, x.event(event, what), events[event][what]);
            }
        }
        int[] lot = {2, 4, 5, 6, 1};
        for (int what = 0; what <= 4; what++) {
            Expect.due("the lot, " + what, x.lot(0, what), lot[what]);
        }
        Expect.due("the buyer", x.sold(0, false), 7);
        Expect.due("the price", x.sold(0, true), 50);
        Expect.due("why", x.why(0), 0);
        Expect.due("the first increment", x.row(0, 1), 10);
        Expect.due("the last bound", x.row(3, 0), 2000);
        Expect.due("audit", x.audit(), 0);
    }

    private static void restoreAfterEventsOfAnotherLot() {
        LotSales x = new LotSales();
        x.addLot(0, 1, 0);
        x.addLot(1, 1, 0);
        x.order(1, 2, 50);
        x.save();
        x.undo();
        x.order(0, 3, 60);
        x.open(1);
        x.restore();
        int[] want = {0, 1, 2, 50};
        for (int what = 0; what < 4; what++) {
            Expect.due("event 0, " + what, x.event(0, what), want[what]);
        }
    }

    private static void newLotInPlaceOfAnOpenOne() {
        LotSales x = new LotSales();
        x.save();
        x.addLot(0, 1, 0);
        x.order(0, 3, 60);
        x.order(0, 0, 70);
        x.open(0);
        x.bid(0, 1, 80);
        x.bid(0, 0, 90);
        x.restore();
        x.addLot(0, 1, 0);
        Expect.due("orders", x.orders(0), 0);
        Expect.due("price", x.open(0), 0);
        Expect.due("limits", x.standing(0, 6), 0);
    }

    private static void restoreOfOpenLots() {
        LotSales x = new LotSales();
        x.addLot(0, 1, 0);
        x.open(0);
        x.bid(0, 3, 50);
        x.order(0, 4, 60);
        x.save();
        x.close(0);
        x.restore();
        int[][] limits = {{4, 60, 2}, {3, 50, 1}};
        for (int rank = 0; rank < 2; rank++) {
            for (int what = 0; what < 3; what++) {
                Expect.due("limit " + rank + " " + what, x.limit(0, rank, what), limits[rank][what]);
            }
        }
        x.bid(0, 3, 70);
        x.undo();
        Expect.due("the bid of before", x.limit(0, 1, 1), 50);
        Expect.due("its time", x.limit(0, 1, 2), 1);
    }

    private static void restoreAndFailedCalls() {
        LotSales x = new LotSales();
        x.addLot(0, 1, 0);
        x.save();
        x.setCredit(0, 5);
        Expect.fails("a failed call", INDEX, () -> x.open(7));
        Expect.fails("a failed read", ARGUMENT, x::read);
        Expect.due("they are no changes", x.undo(), 1);
        Expect.due("the credit", x.bidder(0, 0), 20000);
    }

    public static void main(String[] args) {
        eventsOfEachKind();
        fullLedger();
        audit();
        appendChars();
        faults();
        longestFaults();
        nothingIsReadOfTheTextBefore();
        readCommands();
        refusedInText();
        faultPosition();
        undo();
        undoOfEachChange();
        auditOfTheFirst();
        firstEventsAreClosings();
        saveAndRestore();
        restoreAfterOtherEvents();
        restoreAfterEventsOfAnotherLot();
        newLotInPlaceOfAnOpenOne();
        restoreOfOpenLots();
        restoreAndFailedCalls();
        Expect.end();
    }
}

import java.util.NoSuchElementException;

/** Promises 21 to 27. */
public final class ClosingTest {
    private static final Class<IllegalArgumentException> ARGUMENT = IllegalArgumentException.class;
    private static final Class<IllegalStateException> STATE = IllegalStateException.class;
    private static final Class<IndexOutOfBoundsException> INDEX = IndexOutOfBoundsException.class;
    private static final Class<NoSuchElementException> ELEMENT = NoSuchElementException.class;

    private ClosingTest() {
    }

    private static void lastEvent(LotSales x, int... want) {
        for (int what = 0; what < want.length; what++) {
            Expect.due("last event, " + what, x.event(x.events(-1) - 1, what), want[what]);
        }
    }

    private static void lot(LotSales x, int lot, int... want) {
        for (int what = 0; what < want.length; what++) {
            Expect.due("lot(" + lot + ", " + what + ")", x.lot(lot, what), want[what]);
        }
    }

    private static void closeSold() {
        LotSales x = new LotSales();
        x.addLot(2, 1, 100);
        x.order(0, 6, 400);
        x.order(0, 7, 250);
        x.open(0);
        Expect.due("close at the price", x.close(0), 260);
        lastEvent(x, 3, 0, 6, 260);
        lot(x, 0, 2);
        Expect.due("orders are removed", x.orders(-1), 0);
        Expect.due("why", x.why(0), 0);
        Expect.due("the buyer", x.sold(0, false), 6);
        Expect.due("the price", x.sold(0, true), 260);
        Expect.fails("close again", STATE, () -> x.close(0));
        Expect.fails("close(1)", INDEX, () -> x.close(1));
        Expect.fails("close(-1)", INDEX, () -> x.close(-1));
    }

    private static void closeBoughtIn() {
        LotSales x = new LotSales();
        x.addLot(2, 1, 0);
        x.addLot(2, 1, 149);
        x.addLot(3, 1, 105);
        Expect.fails("close a waiting lot", STATE, () -> x.close(0));
        x.open(0);
        Expect.due("nobody led", x.close(0), 0);
        Expect.due("why 1", x.why(0), 1);
        lastEvent(x, 4, 0, -1, 0);
        x.order(1, 4, 139);
        x.open(1);
        Expect.due("the house led", x.close(1), 0);
        Expect.due("why 2", x.why(1), 2);
        Expect.due("orders are removed", x.orders(-1), 0);
        lastEvent(x, 4, 1, -1, 2);
        x.open(2);
        x.bid(2, 4, 120);
        x.undo();
        x.order(2, 4, 100);
        Expect.due("a bidder led below the reserve", x.close(2), 0);
        Expect.due("why 3", x.why(2), 3);
        lastEvent(x, 4, 2, -1, 2);
        lot(x, 2, 3);
        Expect.due("fees of seller 2", x.seller(2, 2), 2);
        Expect.due("fees of seller 3", x.seller(3, 2), 2);
    }

    private static void withdraw() {
        LotSales x = new LotSales();
        x.addLot(0, 1, 10);
        x.addLot(0, 1, 10);
        x.order(0, 1, 20);
        x.order(0, 2, 30);
        x.order(1, 2, 30);
        Expect.due("withdraw(0)", x.withdraw(0), 2);
        lot(x, 0, 4);
        lastEvent(x, 5, 0, -1, 0);
        Expect.due("orders left", x.orders(-1), 1);
        Expect.fails("withdraw again", STATE, () -> x.withdraw(0));
        x.open(1);
        Expect.fails("withdraw an open lot", STATE, () -> x.withdraw(1));
        Expect.fails("withdraw(2)", INDEX, () -> x.withdraw(2));
        Expect.fails("withdraw(-1)", INDEX, () -> x.withdraw(-1));
        Expect.fails("why of a withdrawn lot", ELEMENT, () -> x.why(0));
    }

    private static void offer() {
        LotSales x = new LotSales();
        x.addLot(1, 1, 1000);
        Expect.fails("offer a waiting lot", STATE, () -> x.offer(0, 999));
        Expect.fails("a bad reserve first", ARGUMENT, () -> x.offer(0, 1000));
        x.open(0);
        x.close(0);
        Expect.fails("offer(1, -1)", INDEX, () -> x.offer(1, -1));
        Expect.fails("offer(0, 1000)", ARGUMENT, () -> x.offer(0, 1000));
        Expect.fails("offer(0, -1)", ARGUMENT, () -> x.offer(0, -1));
        Expect.due("offer(0, 999)", x.offer(0, 999), 1000);
        lot(x, 0, 0, 1, 1, 999, 1);
        lastEvent(x, 8, 0, -1, 999);
        Expect.due("why while offered again", x.why(0), 2);
        x.open(0);
        Expect.due("why while open again", x.why(0), 2);
        x.close(0);
        Expect.due("the fees of both times", x.seller(1, 2), 20 + 19);
        Expect.due("offer(0, 0)", x.offer(0, 0), 999);
        x.open(0);
        x.close(0);
        Expect.due("why is the latest", x.why(0), 1);
        Expect.fails("no reserve is less than 0", ARGUMENT, () -> x.offer(0, 0));
    }

    private static void split() {
        LotSales x = new LotSales();
        x.addLot(4, 11, 1003);
        x.addLot(0, 1, 0);
        x.order(0, 8, 100);
        x.order(0, 3, 3);
        x.order(1, 3, 77);
        Expect.due("split(0, 4)", x.split(0, 4), 2);
        lot(x, 0, 5, 4, 11, 1003);
        lastEvent(x, 6, 0, -1, 2);
        // 11 is 3 + 3 + 3 + 2.
        for (int part = 2; part <= 4; part++) {
            lot(x, part, 0, 4, 3, 273, 0);
            Expect.due("maximum of 8 for " + part, x.maximum(part, 8), 27);
            final int made = part;
            Expect.fails("the maximum 0 is left out", ELEMENT, () -> x.maximum(made, 3));
        }
        lot(x, 5, 0, 4, 2, 182, 0);
        Expect.due("maximum of 8 for the last", x.maximum(5, 8), 18);
        Expect.due("orders", x.orders(-1), 5);
        Expect.fails("the old order is removed", ELEMENT, () -> x.maximum(0, 8));
        Expect.due("no events of these orders", x.events(0), 3);
        x.open(4);
        Expect.due("the third new number", x.limit(4, 0, 2), 6);
        x.open(5);
        Expect.due("the fourth new number", x.limit(5, 0, 2), 7);
    }

    private static void splitNumbers() {
        LotSales x = new LotSales();
        x.addLot(4, 2, 0);
        x.order(0, 9, 100);
        x.order(0, 1, 100);
        x.split(0, 2);
        x.open(1);
        x.open(2);
        int[][] want = {{1, 50, 3}, {9, 50, 4}, {1, 50, 5}, {9, 50, 6}};
        for (int i = 0; i < 4; i++) {
            for (int what = 0; what < 3; what++) {
                Expect.due("limit " + i + " " + what, x.limit(1 + i / 2, i % 2, what), want[i][what]);
            }
        }
        x.undo();
        x.undo();
        x.undo();
        Expect.due("undo brings the orders back", x.maximum(0, 9), 100);
        Expect.due("and takes the parts", x.lots(-1), 1);
        x.order(0, 2, 100);
        x.open(0);
        Expect.due("and the numbers", x.limit(0, 2, 2), 3);
    }

    private static void splitFaults() {
        LotSales x = new LotSales();
        x.addLot(0, 3, 0);
        x.addLot(0, 20, 90000);
        Expect.fails("split(2, 1)", INDEX, () -> x.split(2, 1));
        Expect.fails("split(-1, 2)", INDEX, () -> x.split(-1, 2));
        Expect.fails("split(0, 1)", ARGUMENT, () -> x.split(0, 1));
        Expect.fails("split(1, 5)", ARGUMENT, () -> x.split(1, 5));
        Expect.fails("split(0, 4)", ARGUMENT, () -> x.split(0, 4));
        x.setCredit(0, 90000);
        x.order(1, 0, 90000);
        x.split(1, 3);
        lot(x, 2, 0, 0, 7, 31500, 0);
        lot(x, 4, 0, 0, 6, 27000, 0);
        Expect.due("a great maximum", x.maximum(2, 0), 31500);
        Expect.fails("split again", STATE, () -> x.split(1, 3));
        Expect.fails("a bad argument then", ARGUMENT, () -> x.split(1, 21));
        for (int i = 5; i < 18; i++) {
            x.addLot(0, 4, 0);
        }
        Expect.fails("21 lots", STATE, () -> x.split(0, 3));
        Expect.due("20 lots", x.split(0, 2), 18);
        Expect.fails("no place for more", STATE, () -> x.split(17, 2));
    }

    private static void splitTooManyOrders() {
        LotSales x = new LotSales();
        for (int i = 0; i < 5; i++) {
            x.addLot(0, 4, 0);
        }
        for (int i = 0; i < 30; i++) {
            x.order(1 + i / 10, i % 10, 100);
        }
        for (int bidder = 0; bidder < 6; bidder++) {
            x.order(0, bidder, 100);
        }
        Expect.fails("30 and twice 6 orders", STATE, () -> x.split(0, 2));
        Expect.due("nothing is changed", x.lots(-1), 5);
        x.cancel(0, 5);
        Expect.fails("30 and three times 5 orders", STATE, () -> x.split(0, 3));
        Expect.due("30 and twice 5 orders", x.split(0, 2), 5);
        Expect.due("orders", x.orders(-1), 40);
    }

    private static void splitLeftOutOrdersDoNotCount() {
        LotSales x = new LotSales();
        for (int i = 0; i < 5; i++) {
            x.addLot(0, 4, 0);
        }
        for (int i = 0; i < 30; i++) {
            x.order(1 + i / 10, i % 10, 100);
        }
        for (int bidder = 0; bidder < 10; bidder++) {
            x.order(0, bidder, bidder < 8 ? 1 : 2);
        }
        // Of the quantities 2 and 2, a maximum of 1 leaves nothing and one of 2 leaves 1 and 1.
        Expect.due("30 and twice 2 orders", x.split(0, 2), 5);
        Expect.due("orders", x.orders(-1), 34);
        x.open(5);
        Expect.due("a first number", x.bid(5, 0, 10), 10);
        Expect.due("left out ones use up no number", x.limit(5, 0, 2), 45);
    }

    private static void group() {
        LotSales x = new LotSales();
        x.addLot(2, 5, 40000);
        x.addLot(2, 15, 50000);
        x.setCredit(1, 999999);
        x.order(1, 9, 30);
        x.order(0, 9, 12);
        x.order(0, 1, 50000);
        x.order(1, 1, 50000);
        x.order(0, 2, 40);
        x.order(1, 3, 40);
        Expect.due("group(1, 0)", x.group(1, 0), 2);
        lot(x, 2, 0, 2, 20, 90000, 0);
        lot(x, 0, 6);
        lot(x, 1, 6);
        lastEvent(x, 7, 1, -1, 2);
        Expect.due("the sum of 9", x.maximum(2, 9), 42);
        Expect.due("at most 90000", x.maximum(2, 1), 90000);
        Expect.fails("of one lot alone", ELEMENT, () -> x.maximum(2, 2));
        Expect.fails("of the other alone", ELEMENT, () -> x.maximum(2, 3));
        Expect.due("orders", x.orders(-1), 2);
        x.open(2);
        Expect.due("the number of 1 is the first new one", x.limit(2, 0, 2), 7);
        Expect.due("the number of 9", x.limit(2, 1, 2), 8);
    }

    private static void groupOrdersOfOne() {
        LotSales x = new LotSales();
        x.addLot(2, 1, 0);
        x.addLot(2, 1, 0);
        x.order(0, 0, 1);
        x.order(1, 0, 1);
        x.order(0, 1, 1);
        x.order(1, 1, 2);
        x.group(0, 1);
        Expect.due("1 and 1", x.maximum(2, 0), 2);
        Expect.due("1 and 2", x.maximum(2, 1), 3);
        Expect.due("undo group", x.undo(), 6);
        Expect.due("the lots wait", x.lots(0), 2);
        Expect.due("their orders", x.orders(-1), 4);
    }

    private static void splitOrdersOfOne() {
        LotSales x = new LotSales();
        for (int i = 0; i < 5; i++) {
            x.addLot(0, 2, 0);
        }
        for (int i = 0; i < 39; i++) {
            x.order(i / 10, i % 10, 2);
        }
        Expect.fails("30 and twice 9 orders of 1", STATE, () -> x.split(3, 2));
        for (int bidder = 8; bidder >= 5; bidder--) {
            x.cancel(3, bidder);
        }
        x.order(4, 0, 2);
        Expect.fails("31 and twice 5 orders of 1", STATE, () -> x.split(3, 2));
        x.cancel(4, 0);
        Expect.due("30 and twice 5 orders of 1", x.split(3, 2), 5);
        Expect.due("one of them", x.maximum(6, 4), 1);
    }

    private static void groupFaults() {
        LotSales x = new LotSales();
        x.addLot(0, 10, 45000);
        x.addLot(1, 1, 0);
        x.addLot(0, 11, 0);
        x.addLot(0, 1, 45001);
        x.addLot(0, 1, 1);
        x.withdraw(4);
        Expect.fails("group(0, 5)", INDEX, () -> x.group(0, 5));
        Expect.fails("group(5, 5)", INDEX, () -> x.group(5, 5));
        Expect.fails("group(-1, 0)", INDEX, () -> x.group(-1, 0));
        Expect.fails("group(0, 0)", ARGUMENT, () -> x.group(0, 0));
        Expect.fails("different sellers", ARGUMENT, () -> x.group(0, 1));
        Expect.fails("quantities too great", ARGUMENT, () -> x.group(0, 2));
        Expect.fails("reserves too great", ARGUMENT, () -> x.group(0, 3));
        Expect.fails("the other is withdrawn", STATE, () -> x.group(0, 4));
        Expect.fails("the first is withdrawn", STATE, () -> x.group(4, 0));
        Expect.fails("same and withdrawn", ARGUMENT, () -> x.group(4, 4));
        for (int i = 5; i < 20; i++) {
            x.addLot(3, 1, 0);
        }
        Expect.fails("20 lots were made", STATE, () -> x.group(5, 6));
        x.undo();
        Expect.due("19 lots were made", x.group(5, 6), 19);
    }

    private static void whyAndSold() {
        LotSales x = new LotSales();
        x.addLot(0, 1, 0);
        Expect.fails("why before closing", ELEMENT, () -> x.why(0));
        Expect.fails("sold before closing", ELEMENT, () -> x.sold(0, true));
        x.open(0);
        Expect.fails("why when open", ELEMENT, () -> x.why(0));
        Expect.fails("sold when open", ELEMENT, () -> x.sold(0, false));
        x.bid(0, 9, 30);
        Expect.due("close", x.close(0), 10);
        Expect.due("why", x.why(0), 0);
        Expect.due("sold to", x.sold(0, false), 9);
        Expect.due("sold for", x.sold(0, true), 10);
        Expect.fails("why(1)", INDEX, () -> x.why(1));
        Expect.fails("why(-1)", INDEX, () -> x.why(-1));
        Expect.fails("sold(1, true)", INDEX, () -> x.sold(1, true));
        Expect.fails("sold(-1, true)", INDEX, () -> x.sold(-1, true));
        x.addLot(0, 1, 10);
        x.open(1);
        x.close(1);
        Expect.fails("sold when bought in", ELEMENT, () -> x.sold(1, false));
        x.undo();
        Expect.fails("why after undo of the closing", ELEMENT, () -> x.why(1));
    }

    public static void main(String[] args) {
        closeSold();
        closeBoughtIn();
        withdraw();
        offer();
        split();
        splitNumbers();
        splitFaults();
        splitTooManyOrders();
        splitLeftOutOrdersDoNotCount();
        splitOrdersOfOne();
        group();
        groupOrdersOfOne();
        groupFaults();
        whyAndSold();
        Expect.end();
    }
}

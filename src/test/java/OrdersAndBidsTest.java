import java.util.NoSuchElementException;

/** Promises 10 to 20. */
public final class OrdersAndBidsTest {
    private static final Class<IllegalArgumentException> ARGUMENT = IllegalArgumentException.class;
    private static final Class<IllegalStateException> STATE = IllegalStateException.class;
    private static final Class<IndexOutOfBoundsException> INDEX = IndexOutOfBoundsException.class;
    private static final Class<NoSuchElementException> ELEMENT = NoSuchElementException.class;
    private static final Class<UnsupportedOperationException> REFUSED = UnsupportedOperationException.class;

    private OrdersAndBidsTest() {
    }

    private static LotSales withLots(int... reserves) {
        LotSales x = new LotSales();
        for (int reserve : reserves) {
            x.addLot(0, 1, reserve);
        }
        return x;
    }

    private static void refusedOrder(LotSales x, int lot, int bidder, int maximum, int reason) {
        String call = "order(" + lot + ", " + bidder + ", " + maximum + ")";
        Expect.due("reason before " + call, x.wouldRefuse(true, lot, bidder, maximum), reason);
        Expect.fails(call, REFUSED, () -> x.order(lot, bidder, maximum));
        Expect.due("reason of " + call, x.refusal(), reason);
    }

    private static void refusedBid(LotSales x, int lot, int bidder, int amount, int reason) {
        String call = "bid(" + lot + ", " + bidder + ", " + amount + ")";
        if (amount <= 90000) {
            Expect.due("reason before " + call, x.wouldRefuse(false, lot, bidder, amount), reason);
        }
        Expect.fails(call, REFUSED, () -> x.bid(lot, bidder, amount));
        Expect.due("reason of " + call, x.refusal(), reason);
    }

    private static void standing(LotSales x, int lot, int... want) {
        for (int what = 0; what < want.length; what++) {
            Expect.due("standing(" + lot + ", " + what + ")", x.standing(lot, what), want[what]);
        }
    }

    private static void order() {
        LotSales x = withLots(0, 0, 0, 0, 0);
        Expect.due("a first order", x.order(0, 0, 1), 1);
        Expect.due("a second order", x.order(1, 0, 20000), 2);
        Expect.due("one that replaces", x.order(0, 0, 2), 2);
        Expect.due("its maximum", x.maximum(0, 0), 2);
        refusedOrder(x, 0, 0, 2, 7);
        refusedOrder(x, 0, 0, 1, 7);
        refusedOrder(x, 0, 1, 20001, 8);
        x.setCredit(0, 1);
        refusedOrder(x, 0, 0, 2, 7);
        refusedOrder(x, 0, 0, 3, 8);
        Expect.fails("order(5, 0, 1)", INDEX, () -> x.order(5, 0, 1));
        Expect.fails("order(0, 10, 0)", INDEX, () -> x.order(0, 10, 0));
        Expect.fails("order(-1, 0, 0)", INDEX, () -> x.order(-1, 0, 0));
        Expect.fails("order(0, -1, 0)", INDEX, () -> x.order(0, -1, 0));
        Expect.fails("order(0, 0, 0)", ARGUMENT, () -> x.order(0, 0, 0));
        Expect.fails("order(0, 0, 90001)", ARGUMENT, () -> x.order(0, 0, 90001));
        x.open(1);
        Expect.due("an order for an open lot", x.order(1, 1, 20), 3);
        x.withdraw(0);
        refusedOrder(x, 0, 0, 90000, 6);
        x.setCredit(0, 999999);
        Expect.due("an order of 90000", x.order(2, 0, 90000), 3);
    }

    private static void fortyOrders() {
        LotSales x = withLots(0, 0, 0, 0, 0);
        for (int i = 0; i < 40; i++) {
            Expect.due("order " + i, x.order(i / 10, i % 10, 5), i + 1);
        }
        refusedOrder(x, 4, 0, 20001, 8);
        refusedOrder(x, 4, 0, 5, 9);
        Expect.due("one that replaces", x.order(3, 9, 6), 40);
        x.cancel(3, 9);
        Expect.due("a new 40th", x.order(4, 0, 5), 40);
    }

    private static void cancel() {
        LotSales x = withLots(0, 0);
        x.order(0, 3, 50);
        x.order(0, 4, 60);
        Expect.due("cancel(0, 3)", x.cancel(0, 3), 50);
        Expect.due("orders left", x.orders(0), 1);
        Expect.due("its event", x.event(2, 0), 9);
        Expect.due("its maximum there", x.event(2, 3), 50);
        Expect.fails("cancel(0, 3) again", ELEMENT, () -> x.cancel(0, 3));
        Expect.fails("cancel(2, 0)", INDEX, () -> x.cancel(2, 0));
        Expect.fails("cancel(0, 10)", INDEX, () -> x.cancel(0, 10));
        x.open(0);
        Expect.fails("no order on an open lot", ELEMENT, () -> x.cancel(0, 3));
        Expect.fails("an order on an open lot", STATE, () -> x.cancel(0, 4));
        Expect.due("it is kept", x.maximum(0, 4), 60);
    }

    private static void maximumAndOrders() {
        LotSales x = withLots(0, 0);
        x.order(0, 3, 50);
        x.order(1, 3, 70);
        x.order(1, 5, 80);
        Expect.due("maximum(0, 3)", x.maximum(0, 3), 50);
        Expect.due("maximum(1, 3)", x.maximum(1, 3), 70);
        Expect.fails("maximum(0, 5)", ELEMENT, () -> x.maximum(0, 5));
        Expect.fails("maximum(2, 3)", INDEX, () -> x.maximum(2, 3));
        Expect.fails("maximum(0, 10)", INDEX, () -> x.maximum(0, 10));
        Expect.fails("maximum(0, -1)", INDEX, () -> x.maximum(0, -1));
        Expect.due("orders(-1)", x.orders(-1), 3);
        Expect.due("orders(0)", x.orders(0), 1);
        Expect.due("orders(1)", x.orders(1), 2);
        Expect.fails("orders(2)", INDEX, () -> x.orders(2));
        Expect.fails("orders(-2)", INDEX, () -> x.orders(-2));
        x.open(1);
        x.close(1);
        Expect.due("orders(1) when closed", x.orders(1), 0);
        Expect.fails("maximum(1, 3) when closed", ELEMENT, () -> x.maximum(1, 3));
        Expect.due("orders(-1) then", x.orders(-1), 1);
    }

    private static void open() {
        LotSales x = withLots(0, 0, 500, 100);
        Expect.due("open without orders", x.open(0), 0);
        standing(x, 0, 0, -1, 10, 0, 0, 0, 0);
        x.order(1, 0, 59);
        Expect.due("open with one order", x.open(1), 10);
        standing(x, 1, 10, 0, 20, 1, 50, 0, 1);
        Expect.due("open with the house alone", x.open(2), 10);
        standing(x, 2, 10, 10, 20, 0, 480, 0, 0);
        x.order(3, 0, 115);
        Expect.due("open at the reserve", x.open(3), 100);
        standing(x, 3, 100, 0, 120, 1, 100, 90, 1);
        Expect.fails("open(4)", INDEX, () -> x.open(4));
        Expect.fails("open(-1)", INDEX, () -> x.open(-1));
        Expect.fails("open(0) again", STATE, () -> x.open(0));
        Expect.due("kind of the event", x.event(x.events(-1) - 1, 0), 1);
        Expect.due("lot of the event", x.event(x.events(-1) - 1, 1), 3);
        Expect.due("bidder of the event", x.event(x.events(-1) - 1, 2), -1);
        Expect.due("amount of the event", x.event(x.events(-1) - 1, 3), 0);
    }

    private static void openedAgain() {
        LotSales x = withLots(1000);
        x.open(0);
        x.bid(0, 1, 700);
        x.bid(0, 0, 800);
        x.close(0);
        x.offer(0, 500);
        Expect.due("the bids of before do not count", x.open(0), 10);
        standing(x, 0, 10, 10, 20, 0, 480, 0, 0);
    }

    private static void bid() {
        LotSales x = withLots(0, 50);
        refusedBid(x, 0, 0, 10, 1);
        x.open(0);
        refusedBid(x, 0, 0, 9, 3);
        refusedBid(x, 0, 0, 15, 4);
        Expect.due("a first bid", x.bid(0, 0, 500), 10);
        refusedBid(x, 0, 0, 20, 2);
        refusedBid(x, 0, 1, 19, 3);
        Expect.due("a bid below the limit of the leader", x.bid(0, 1, 20), 30);
        Expect.due("one as great as that", x.bid(0, 1, 500), 500);
        standing(x, 0, 500, 0, 550, 1, 500, 500, 2);
        x.setCredit(1, 549);
        refusedBid(x, 0, 1, 550, 5);
        x.setCredit(1, 550);
        Expect.due("a bid at the credit", x.bid(0, 1, 550), 550);
        Expect.fails("bid(2, 0, 10)", INDEX, () -> x.bid(2, 0, 10));
        Expect.fails("bid(0, 10, 0)", INDEX, () -> x.bid(0, 10, 0));
        Expect.fails("bid(0, 0, 0)", ARGUMENT, () -> x.bid(0, 0, 0));
        Expect.fails("bid(0, 0, 100000)", ARGUMENT, () -> x.bid(0, 0, 100000));
        Expect.due("kind of the event", x.event(x.events(-1) - 1, 0), 2);
        Expect.due("bidder of the event", x.event(x.events(-1) - 1, 2), 1);
        Expect.due("amount of the event", x.event(x.events(-1) - 1, 3), 550);
        x.open(1);
        refusedBid(x, 1, 1, 20, 5);
        x.setCredit(1, 570);
        Expect.due("credit for both", x.bid(1, 1, 20), 30);
        standing(x, 1, 30, 10, 40, 0, 40, 20, 1);
    }

    private static void askAboveAllAmounts() {
        LotSales x = withLots(0);
        x.setCredit(0, 999999);
        x.setCredit(1, 999999);
        x.open(0);
        x.bid(0, 0, 99900);
        Expect.due("a bid as great as the leader's", x.bid(0, 1, 99900), 99900);
        standing(x, 0, 99900, 0, 100000, 1, 99900, 99900, 2);
        refusedBid(x, 0, 1, 99999, 3);
        refusedBid(x, 0, 1, 90000, 3);
    }

    private static void refusal() {
        LotSales x = withLots(0);
        Expect.fails("refusal at first", ELEMENT, x::refusal);
        Expect.due("wouldRefuse", x.wouldRefuse(false, 0, 0, 10), 1);
        Expect.fails("refusal after wouldRefuse", ELEMENT, x::refusal);
        Expect.fails("a bid", REFUSED, () -> x.bid(0, 0, 10));
        Expect.due("its reason", x.refusal(), 1);
        x.order(0, 0, 50);
        Expect.due("the reason stays", x.refusal(), 1);
        Expect.fails("an order", REFUSED, () -> x.order(0, 0, 50));
        Expect.due("the latest reason", x.refusal(), 7);
        x.undo();
        Expect.due("the reason does not belong to the sale", x.refusal(), 7);
        Expect.fails("an order with a bad argument", ARGUMENT, () -> x.order(0, 0, 0));
        Expect.due("it is not refused", x.refusal(), 7);
    }

    private static void wouldRefuse() {
        LotSales x = withLots(0);
        Expect.due("an order", x.wouldRefuse(true, 0, 0, 20000), 0);
        Expect.due("too great an order", x.wouldRefuse(true, 0, 0, 20001), 8);
        Expect.fails("wouldRefuse(true, 1, 0, 0)", INDEX, () -> x.wouldRefuse(true, 1, 0, 0));
        Expect.fails("wouldRefuse(false, 0, 10, 0)", INDEX, () -> x.wouldRefuse(false, 0, 10, 0));
        Expect.fails("wouldRefuse(false, 0, 0, 0)", ARGUMENT, () -> x.wouldRefuse(false, 0, 0, 0));
        Expect.fails("wouldRefuse(false, 0, 0, 90001)", ARGUMENT, () -> x.wouldRefuse(false, 0, 0, 90001));
        Expect.fails("wouldRefuse(true, 0, 0, 90001)", ARGUMENT, () -> x.wouldRefuse(true, 0, 0, 90001));
        Expect.due("nothing is done", x.orders(-1), 0);
        x.open(0);
        Expect.due("a bid", x.wouldRefuse(false, 0, 0, 20000), 0);
        Expect.due("90000", x.wouldRefuse(false, 0, 0, 90000), 5);
        Expect.due("nothing is done then", x.standing(0, 6), 0);
    }

    private static void standingOfBiddersAndHouse() {
        LotSales x = withLots(105, 1000);
        x.order(0, 7, 110);
        Expect.due("the limit of the house is 100, as that of the bidder", x.open(0), 100);
        standing(x, 0, 100, 7, 120, 0, 100, 100, 1);
        x.order(1, 1, 700);
        x.order(1, 2, 4);
        Expect.due("the house leads", x.open(1), 750);
        standing(x, 1, 750, 10, 800, 0, 950, 700, 1);
        Expect.fails("standing(2, 0)", INDEX, () -> x.standing(2, 9));
        Expect.fails("standing(0, 7)", ARGUMENT, () -> x.standing(0, 7));
        Expect.fails("standing(0, -1)", ARGUMENT, () -> x.standing(0, -1));
        x.close(0);
        Expect.fails("standing(0, 7) when closed", ARGUMENT, () -> x.standing(0, 7));
        Expect.fails("standing(0, 0) when closed", STATE, () -> x.standing(0, 0));
    }

    private static void limit(LotSales x, int rank, int bidder, int limit, int time) {
        Expect.due("bidder of rank " + rank, x.limit(0, rank, 0), bidder);
        Expect.due("limit of rank " + rank, x.limit(0, rank, 1), limit);
        Expect.due("time of rank " + rank, x.limit(0, rank, 2), time);
    }

    private static void limits() {
        LotSales x = withLots(0);
        x.order(0, 5, 300);
        x.order(0, 4, 310);
        x.order(0, 3, 9);
        x.order(0, 2, 480);
        x.open(0);
        limit(x, 0, 2, 480, 4);
        limit(x, 1, 5, 300, 1);
        limit(x, 2, 4, 300, 2);
        Expect.fails("an order below the first step", ELEMENT, () -> x.limit(0, 3, 0));
        Expect.fails("limit(0, -1, 0)", ELEMENT, () -> x.limit(0, -1, 0));
        Expect.fails("limit(1, 0, 3)", INDEX, () -> x.limit(1, 0, 3));
        Expect.fails("limit(0, 9, 3)", ARGUMENT, () -> x.limit(0, 9, 3));
        Expect.fails("limit(0, 0, -1)", ARGUMENT, () -> x.limit(0, 0, -1));
        x.order(0, 5, 315);
        limit(x, 1, 4, 300, 2);
        limit(x, 2, 5, 300, 5);
        x.bid(0, 3, 500);
        limit(x, 0, 3, 500, 6);
        x.order(0, 3, 549);
        limit(x, 0, 3, 500, 6);
        x.order(0, 3, 550);
        limit(x, 0, 3, 550, 8);
        x.order(0, 2, 600);
        refusedBid(x, 0, 3, 600, 3);
        x.order(0, 3, 610);
        limit(x, 0, 2, 600, 9);
        limit(x, 1, 3, 600, 10);
        x.close(0);
        Expect.fails("limit(0, 0, 3) when closed", ARGUMENT, () -> x.limit(0, 0, 3));
        Expect.fails("limit(0, 0, 0) when closed", STATE, () -> x.limit(0, 0, 0));
    }

    private static void bidAndOrderOfOneLimit() {
        LotSales x = withLots(0, 0);
        x.order(1, 5, 90);
        x.order(0, 4, 500);
        x.open(0);
        x.open(1);
        x.bid(0, 3, 300);
        x.order(0, 3, 319);
        // Another lot is looked at between, where the limit of bidder 3 has another time.
        x.bid(1, 3, 100);
        Expect.due("time on the other lot", x.limit(1, 0, 2), 5);
        limit(x, 1, 3, 300, 3);
    }

    private static void orderBeforeBid() {
        LotSales x = withLots(0);
        x.order(0, 1, 300);
        x.order(0, 2, 320);
        x.open(0);
        x.bid(0, 1, 340);
        x.order(0, 2, 350);
        // 350 has the step 340, which bidder 1 reached before.
        limit(x, 0, 1, 340, 3);
        limit(x, 1, 2, 340, 4);
    }

    private static void priceIf() {
        LotSales x = withLots(100);
        x.order(0, 2, 200);
        x.order(0, 3, 300);
        x.open(0);
        Expect.due("the price", x.standing(0, 0), 220);
        Expect.due("below the own limit", x.priceIf(0, 3, 10), 220);
        Expect.due("at the own limit", x.priceIf(0, 3, 300), 220);
        Expect.due("above the own limit of the leader", x.priceIf(0, 3, 500), 220);
        Expect.due("the other below the leader", x.priceIf(0, 2, 240), 260);
        Expect.due("the other at the leader's", x.priceIf(0, 2, 300), 300);
        Expect.due("the other above the leader", x.priceIf(0, 2, 500), 320);
        Expect.due("a third one", x.priceIf(0, 4, 99900), 320);
        Expect.due("a third one far below", x.priceIf(0, 4, 10), 220);
        Expect.due("nothing is changed", x.standing(0, 6), 2);
        Expect.due("nothing is changed in the price", x.standing(0, 0), 220);
        Expect.fails("priceIf(1, 0, 0)", INDEX, () -> x.priceIf(1, 0, 0));
        Expect.fails("priceIf(0, 10, 0)", INDEX, () -> x.priceIf(0, 10, 0));
        Expect.fails("priceIf(0, 0, 0)", ARGUMENT, () -> x.priceIf(0, 0, 0));
        Expect.fails("priceIf(0, 0, -10)", ARGUMENT, () -> x.priceIf(0, 0, -10));
        Expect.fails("priceIf(0, 0, 110)", ARGUMENT, () -> x.priceIf(0, 0, 110));
        Expect.fails("priceIf(0, 0, 100000)", ARGUMENT, () -> x.priceIf(0, 0, 100000));
        x.close(0);
        Expect.fails("priceIf(0, 0, 110) when closed", ARGUMENT, () -> x.priceIf(0, 0, 110));
        Expect.fails("priceIf(0, 0, 100) when closed", STATE, () -> x.priceIf(0, 0, 100));
    }

    private static void priceIfAgainstTheHouse() {
        LotSales x = withLots(500);
        x.open(0);
        Expect.due("the house leads", x.standing(0, 1), 10);
        Expect.due("below the house", x.priceIf(0, 0, 100), 120);
        Expect.due("at the house", x.priceIf(0, 0, 480), 480);
        Expect.due("above the house", x.priceIf(0, 0, 600), 500);
    }

    private static void amountsOfOne() {
        LotSales x = withLots(0, 2, 3);
        x.setRows(0, 0, 1);
        x.order(0, 9, 1);
        Expect.due("open at 1", x.open(0), 1);
        standing(x, 0, 1, 9, 2, 1, 1, 0, 1);
        limit(x, 0, 9, 1, 1);
        x.bid(0, 0, 2);
        limit(x, 0, 0, 2, 2);
        limit(x, 1, 9, 1, 1);
        Expect.due("the leader's own step", x.priceIf(0, 0, 2), 2);
        Expect.due("a step of 1", x.priceIf(0, 9, 1), 2);
        Expect.due("the house at 1", x.open(1), 1);
        standing(x, 1, 1, 10, 2, 0, 1, 0, 0);
        Expect.due("a bid of 2", x.bid(1, 4, 2), 2);
        standing(x, 1, 2, 4, 3, 1, 2, 1, 1);
        Expect.due("the house at 2", x.open(2), 1);
        Expect.due("a bid of the limit of the house", x.bid(2, 4, 2), 2);
        standing(x, 2, 2, 4, 3, 0, 2, 2, 1);
        x.undo();
        x.undo();
        x.addLot(0, 1, 0);
        x.open(3);
        Expect.due("a bid of 1", x.bid(3, 0, 1), 1);
        x.order(3, 5, 1);
        x.order(3, 4, 1);
        for (int rank = 0; rank < 3; rank++) {
            Expect.due("rank " + rank + " with 1", x.limit(3, rank, 0), new int[] {0, 5, 4}[rank]);
        }
        Expect.due("another by the leader", x.wouldRefuse(false, 3, 0, 1), 2);
        Expect.due("another of 1", x.wouldRefuse(false, 3, 1, 1), 3);
    }

    private static void limitOfTheHouse() {
        int[][] want = {{10, 0}, {11, 10}, {100, 90}, {101, 100}, {120, 100}, {121, 120}, {90000, 89900}};
        for (int[] pair : want) {
            LotSales x = withLots(pair[0]);
            x.open(0);
            Expect.due("limit of the house of " + pair[0], x.standing(0, 4), pair[1]);
            Expect.due("leader with " + pair[0], x.standing(0, 1), pair[1] == 0 ? -1 : 10);
        }
    }

    private static void priceIfTies() {
        LotSales x = withLots(0);
        x.order(0, 9, 200);
        x.order(0, 0, 200);
        x.open(0);
        limit(x, 0, 9, 200, 1);
        Expect.due("the second one at the limit of both", x.priceIf(0, 0, 200), 200);
        Expect.due("a third one at the limit of both", x.priceIf(0, 5, 200), 200);
        Expect.due("the first one above", x.priceIf(0, 9, 220), 220);
        Expect.due("nothing is changed in the leader", x.standing(0, 1), 9);
    }

    public static void main(String[] args) {
        order();
        fortyOrders();
        cancel();
        maximumAndOrders();
        open();
        openedAgain();
        bid();
        askAboveAllAmounts();
        refusal();
        wouldRefuse();
        standingOfBiddersAndHouse();
        limits();
        bidAndOrderOfOneLimit();
        orderBeforeBid();
        priceIf();
        priceIfAgainstTheHouse();
        amountsOfOne();
        limitOfTheHouse();
        priceIfTies();
        Expect.end();
    }
}

/** Promises 28 to 32. */
public final class AccountsTest {
    private static final Class<IllegalArgumentException> ARGUMENT = IllegalArgumentException.class;
    private static final Class<IndexOutOfBoundsException> INDEX = IndexOutOfBoundsException.class;

    private AccountsTest() {
    }

    /** Sells a new lot without a reserve to the bidder for the price, which is a step. */
    private static int sell(LotSales x, int seller, int bidder, int price) {
        int lot = x.addLot(seller, 1, 0);
        x.open(lot);
        x.bid(lot, bidder == 0 ? 1 : 0, price);
        x.order(lot, bidder, Math.min(90000, x.nextStep(price) + 10));
        Expect.due("price of " + lot, x.close(lot), x.nextStep(price));
        return lot;
    }

    private static void account(LotSales x, boolean isBidder, int person, int... want) {
        for (int what = 0; what < want.length; what++) {
            int got = isBidder ? x.bidder(person, what) : x.seller(person, what);
            Expect.due((isBidder ? "bidder(" : "seller(") + person + ", " + what + ")", got, want[what]);
        }
    }

    private static void premium() {
        LotSales x = new LotSales();
        int[][] want = {{0, 0}, {3, 0}, {4, 1}, {7, 1}, {999, 249}, {1000, 250}, {1004, 250}, {1005, 251},
            {5000, 1050}, {5008, 1050}, {5009, 1051}, {6000, 1170}, {99999, 12449}};
        for (int[] pair : want) {
            Expect.due("premium(" + pair[0] + ")", x.premium(pair[0]), pair[1]);
        }
        Expect.fails("premium(-1)", ARGUMENT, () -> x.premium(-1));
        Expect.fails("premium(100000)", ARGUMENT, () -> x.premium(100000));
    }

    private static void eachPartIsRoundedDown() {
        LotSales x = new LotSales();
        // 25 percent of 999 and nothing else; of 1003, 250 and 20 percent of 3.
        Expect.due("premium(1003)", x.premium(1003), 250);
        Expect.due("premium(5007)", x.premium(5007), 250 + 800);
        Expect.due("premium(5016)", x.premium(5016), 250 + 800 + 1);
    }

    private static void bidders() {
        LotSales x = new LotSales();
        account(x, true, 3, 20000, 0, 0, 0, 0, 0, 0);
        sell(x, 0, 3, 100);
        account(x, true, 3, 20000, 120, 30, 150, 1, 120, 0);
        sell(x, 1, 3, 2000);
        account(x, true, 3, 20000, 2220, 30 + 470, 2720, 2, 2220, 0);
        account(x, true, 0, 20000, 0, 0, 0, 0, 0, 0);
        int lot = x.addLot(2, 1, 0);
        x.open(lot);
        x.bid(lot, 3, 500);
        account(x, true, 3, 20000, 2220, 500, 2720, 2, 2720, 1);
        int other = x.addLot(2, 1, 0);
        x.order(other, 3, 599);
        x.open(other);
        account(x, true, 3, 20000, 2220, 500, 2720, 2, 2720 + 550, 2);
        x.bid(other, 4, 600);
        account(x, true, 3, 20000, 2220, 500, 2720, 2, 2720, 1);
        account(x, true, 4, 20000, 0, 0, 0, 0, 600, 1);
        Expect.fails("bidder(-1, 0)", INDEX, () -> x.bidder(-1, 0));
        Expect.fails("bidder(10, 7)", INDEX, () -> x.bidder(10, 7));
        Expect.fails("bidder(0, 7)", ARGUMENT, () -> x.bidder(0, 7));
        Expect.fails("bidder(0, -1)", ARGUMENT, () -> x.bidder(0, -1));
    }

    private static void sellers() {
        LotSales x = new LotSales();
        account(x, false, 5, 0, 0, 0, 0, 0, 0);
        sell(x, 5, 3, 100);
        account(x, false, 5, 120, 12, 0, 108, 1, 0);
        sell(x, 5, 3, 10);
        account(x, false, 5, 140, 12 + 5, 0, 123, 2, 0);
        int lot = x.addLot(5, 1, 9999);
        x.open(lot);
        x.close(lot);
        account(x, false, 5, 140, 17, 199, -76, 2, 1);
        x.offer(lot, 9998);
        account(x, false, 5, 140, 17, 199, -76, 2, 0);
        x.open(lot);
        x.close(lot);
        account(x, false, 5, 140, 17, 398, -275, 2, 1);
        account(x, false, 4, 0, 0, 0, 0, 0, 0);
        Expect.due("what all sellers get is negative", x.house(3), -275);
        Expect.fails("seller(-1, 0)", INDEX, () -> x.seller(-1, 0));
        Expect.fails("seller(6, 6)", INDEX, () -> x.seller(6, 6));
        Expect.fails("seller(0, 6)", ARGUMENT, () -> x.seller(0, 6));
        Expect.fails("seller(0, -1)", ARGUMENT, () -> x.seller(0, -1));
    }

    private static void commissionAtMostThePrice() {
        LotSales x = new LotSales();
        x.setRows(0, 0, 3);
        int lot = x.addLot(1, 1, 0);
        x.open(lot);
        x.bid(lot, 0, 3);
        Expect.due("a price of 3", x.close(lot), 3);
        account(x, false, 1, 3, 3, 0, 0, 1, 0);
        Expect.due("no premium", x.bidder(0, 2), 0);
    }

    private static void house() {
        LotSales x = new LotSales();
        for (int what = 0; what <= 3; what++) {
            Expect.due("house(" + what + ") at first", x.house(what), 0);
        }
        sell(x, 5, 3, 100);
        sell(x, 4, 2, 2000);
        int lot = x.addLot(0, 1, 1000);
        x.open(lot);
        x.close(lot);
        Expect.due("income", x.house(0), 30 + 470 + 12 + 210 + 20);
        Expect.due("prices", x.house(1), 120 + 2100);
        Expect.due("what bidders pay", x.house(2), 120 + 2100 + 500);
        Expect.due("what sellers get", x.house(3), 120 + 2100 - 222 - 20);
        Expect.fails("house(-1)", ARGUMENT, () -> x.house(-1));
        Expect.fails("house(4)", ARGUMENT, () -> x.house(4));
    }

    private static void twentyLots() {
        LotSales x = new LotSales();
        x.setCredit(0, 999999);
        for (int lot = 0; lot < 20; lot++) {
            x.addLot(0, 1, 0);
            x.order(lot, 0, 50);
            x.open(lot);
        }
        account(x, true, 0, 999999, 0, 0, 0, 0, 1000, 20);
        Expect.due("open ones", x.lots(1), 20);
        Expect.due("orders", x.orders(-1), 20);
        for (int lot = 0; lot < 20; lot++) {
            x.close(lot);
        }
        account(x, true, 0, 999999, 200, 40, 240, 20, 200, 0);
        account(x, false, 0, 200, 100, 0, 100, 20, 0);
        Expect.due("income", x.house(0), 140);
        Expect.due("audit", x.audit(), 0);
        Expect.due("no orders", x.orders(-1), 0);
    }

    private static void premiumsOfTheFirstAndTheLast() {
        LotSales x = new LotSales();
        for (int person = 0; person < 10; person += 9) {
            int lot = x.addLot(person == 0 ? 0 : 5, 1, 90);
            x.open(lot);
            x.bid(lot, person, 90);
            x.close(lot);
        }
        Expect.due("income of both", x.house(0), 2 * (22 + 9));
        Expect.due("prices of both", x.house(1), 180);
        Expect.due("what both get", x.house(3), 2 * 81);
    }

    private static void soldShare() {
        LotSales x = new LotSales();
        Expect.fails("soldShare at first", ArithmeticException.class, x::soldShare);
        int lot = x.addLot(0, 1, 1000);
        x.open(lot);
        x.close(lot);
        Expect.due("none sold", x.soldShare(), 0.0);
        sell(x, 0, 1, 10);
        Expect.due("half sold", x.soldShare(), 0.5);
        sell(x, 0, 1, 10);
        Expect.due("two of three sold", x.soldShare(), 2.0 / 3.0);
        x.offer(lot, 999);
        Expect.due("offered again", x.soldShare(), 2.0 / 3.0);
        x.open(lot);
        x.close(lot);
        Expect.due("closed twice", x.soldShare(), 0.5);
    }

    public static void main(String[] args) {
        premium();
        eachPartIsRoundedDown();
        bidders();
        sellers();
        commissionAtMostThePrice();
        house();
        twentyLots();
        premiumsOfTheFirstAndTheLast();
        soldShare();
        Expect.end();
    }
}

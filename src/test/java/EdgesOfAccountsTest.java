/** The edges of the sentences on premiums, commissions and fees, and of promises 28 to 32. */
public final class EdgesOfAccountsTest {
    private EdgesOfAccountsTest() {
    }

    // Premiums.

    private static void premiums() {
        new Run("25 percent of the part of the price up to 1000, 20 percent of the part above that up to 5000, and "
                + "12 percent of the rest, each one rounded down")
                .due("premium(0)", 0).due("premium(3)", 0).due("premium(4)", 1).due("premium(7)", 1)
                .due("premium(8)", 2)
                .due("premium(996)", 249).due("premium(999)", 249).due("premium(1000)", 250)
                .due("premium(1004)", 250).due("premium(1005)", 251)
                .due("premium(4999)", 250 + 799).due("premium(5000)", 250 + 800)
                // 12 percent of 8 are 0.96, of 9 are 1.08, of 16 are 1.92, of 17 are 2.04.
                .due("premium(5008)", 1050).due("premium(5009)", 1051)
                .due("premium(5016)", 1051).due("premium(5017)", 1052)
                // 12 percent of 94999 are 11399.88.
                .due("premium(99999)", 12449);
    }

    private static void premiumPrices() {
        new Run("the price, 0 to 99999")
                .throwsArgument("premium(-1)").due("premium(0)", 0)
                .due("premium(99999)", 12449).throwsArgument("premium(100000)");
    }

    // Commissions.

    private static void commissions() {
        String sentence = "10 percent of the price, rounded down, but at least 5 and at most the price";
        commission(sentence, 1, 1);
        commission(sentence, 4, 4);
        commission(sentence, 5, 5);
        commission(sentence, 6, 5);
        commission(sentence, 49, 5);
        commission(sentence, 59, 5);
        commission(sentence, 60, 6);
        commission(sentence, 69, 6);
        commission(sentence, 90000, 9000);
    }

    private static void commission(String sentence, int price, int commission) {
        new Run(sentence)
                .does("setRows(0, 0, 1)").does("addLot(5, 1, 0)")
                .does("setCredit(0, 90000)").does("setCredit(1, 90000)")
                .does("order(0, 0, " + price + ")").does("order(0, 1, " + price + ")").does("open(0)")
                .due("close(0)", price)
                .due("seller(5, 0)", price).due("seller(5, 1)", commission).due("seller(5, 3)", price - commission)
                .due("house(3)", price - commission);
    }

    // Fees.

    private static void fees() {
        String sentence = "the seller pays a fee of 2 percent of the reserve, rounded down";
        fee(sentence, 0, 0);
        fee(sentence, 49, 0);
        fee(sentence, 50, 1);
        fee(sentence, 99, 1);
        fee(sentence, 100, 2);
        fee(sentence, 149, 2);
        fee(sentence, 90000, 1800);
    }

    private static void fee(String sentence, int reserve, int fee) {
        new Run(sentence)
                .does("addLot(0, 1, " + reserve + ")").does("open(0)")
                .due("close(0)", 0)
                .due("seller(0, 2)", fee).due("seller(0, 3)", -fee).due("house(0)", fee).due("house(3)", -fee)
                .due("event(1, 3)", fee);
    }

    private static void feesEachTime() {
        new Run("For a lot that is bought in, the seller pays a fee of 2 percent of the reserve, rounded down, each "
                + "time.")
                .does("addLot(2, 1, 100)").does("open(0)").does("close(0)").due("seller(2, 2)", 2)
                .does("offer(0, 99)").due("seller(2, 2)", 2)
                .does("open(0)").due("seller(2, 2)", 2)
                .does("close(0)").due("seller(2, 2)", 3)
                .does("offer(0, 49)").does("open(0)").does("close(0)").due("seller(2, 2)", 3)
                .does("offer(0, 0)").does("open(0)").does("bid(0, 3, 10)").does("close(0)")
                .due("seller(2, 2)", 3).due("seller(2, 0)", 10).due("seller(2, 1)", 5).due("seller(2, 3)", 2);
    }

    // Promises 29 to 32.

    private static void bidderAccount() {
        new Run("Returns a number of the account of a bidder.")
                .throwsIndex("bidder(-1, 0)").throwsIndex("bidder(10, 0)").throwsIndex("bidder(10, 7)")
                .throwsArgument("bidder(0, -1)").due("bidder(0, 0)", 20000)
                .due("bidder(0, 6)", 0).throwsArgument("bidder(0, 7)").throwsArgument("bidder(9, 7)")
                .times(2, "addLot(0, 1, 0)").does("order(0, 9, 1000)").does("order(0, 8, 2000)")
                .does("open(0)").due("bidder(9, 6)", 0).due("bidder(8, 6)", 1)
                .does("open(1)").does("bid(1, 8, 10)").due("bidder(8, 6)", 2)
                .due("close(0)", 1050)
                .due("bidder(8, 1)", 1050).due("bidder(8, 2)", 260).due("bidder(8, 3)", 1310)
                .due("bidder(8, 4)", 1).due("bidder(8, 5)", 1060).due("bidder(8, 6)", 1)
                .due("bidder(9, 1)", 0).due("bidder(9, 4)", 0).due("bidder(9, 5)", 0)
                .due("bidder(8, 0)", 20000);
    }

    private static void premiumsOfLots() {
        // Each lot has a premium of its own: 25 percent of 10 are 2, twice.
        new Run("2 for the sum of their premiums")
                .times(2, "addLot(0, 1, 0)").does("order(0, 8, 10)").does("order(1, 8, 10)")
                .each(0, 1, "open(#)").each(0, 1, "close(#)")
                .due("bidder(8, 1)", 20).due("bidder(8, 2)", 4).due("bidder(8, 4)", 2)
                .due("seller(0, 1)", 10).due("house(0)", 14).due("premium(20)", 5);
    }

    private static void sellerAccount() {
        new Run("5 for the number of lots that are bought in")
                .throwsIndex("seller(-1, 0)").throwsIndex("seller(6, 0)").throwsIndex("seller(6, 6)")
                .throwsArgument("seller(0, -1)").due("seller(0, 0)", 0)
                .due("seller(0, 5)", 0).throwsArgument("seller(0, 6)").throwsArgument("seller(5, 6)")
                .times(3, "addLot(5, 1, 50)").does("addLot(0, 1, 50)")
                .each(0, 3, "open(#)").each(0, 3, "close(#)")
                .due("seller(5, 5)", 3).due("seller(0, 5)", 1).due("seller(1, 5)", 0)
                .does("offer(1, 49)").due("seller(5, 5)", 2)
                .does("open(1)").due("seller(5, 5)", 2)
                .does("close(1)").due("seller(5, 5)", 3).due("seller(5, 4)", 0)
                .does("offer(1, 0)").does("open(1)").does("bid(1, 0, 10)").does("close(1)")
                .due("seller(5, 5)", 2).due("seller(5, 4)", 1);
    }

    private static void houseAccount() {
        new Run("Returns a number of the account of the house.")
                .throwsArgument("house(-1)").due("house(0)", 0).due("house(3)", 0).throwsArgument("house(4)")
                .does("addLot(0, 1, 0)").does("addLot(5, 1, 90000)").does("addLot(5, 1, 0)")
                .does("order(0, 0, 10)").does("order(2, 9, 10)")
                .each(0, 2, "open(#)")
                .does("close(0)").due("house(0)", 2 + 5).due("house(1)", 10).due("house(2)", 12).due("house(3)", 5)
                // The sum that all sellers get can be negative.
                .does("close(1)").due("house(0)", 7 + 1800).due("house(1)", 10).due("house(2)", 12)
                .due("house(3)", 5 - 1800)
                .does("close(2)").due("house(0)", 14 + 1800).due("house(1)", 20).due("house(2)", 24)
                .due("house(3)", 10 - 1800);
    }

    private static void openLotsOfABidder() {
        new Run("6 for the number of open lots on which the bidder leads")
                .times(4, "addLot(0, 1, 0)").does("addLot(0, 1, 500)").each(0, 4, "open(#)")
                .due("bidder(0, 6)", 0)
                .does("bid(0, 0, 50)").does("bid(1, 9, 50)").does("bid(2, 0, 50)").does("bid(4, 0, 50)")
                .due("bidder(0, 6)", 2).due("bidder(9, 6)", 1).due("bidder(1, 6)", 0)
                .does("bid(3, 9, 10)").due("bidder(0, 6)", 2).due("bidder(9, 6)", 2)
                // Sold, the lot is not open any longer, though its bids led to the sale.
                .does("close(0)").due("bidder(0, 6)", 1).due("bidder(0, 4)", 1)
                .does("order(2, 1, 60)").due("bidder(0, 6)", 0).due("bidder(1, 6)", 1);
    }

    private static void twentyLots() {
        Run run = new Run("4 for the number of lots bought").times(20, "addLot(5, 1, 0)")
                .each(0, 19, "open(#)").each(0, 19, "bid(#, 9, 10)")
                .due("bidder(9, 6)", 20).due("bidder(9, 5)", 200).due("bidder(9, 4)", 0).due("seller(5, 5)", 0)
                .due("orders(-1)", 0).due("lots(1)", 20)
                .each(0, 18, "close(#)")
                .due("bidder(9, 6)", 1).due("bidder(9, 5)", 200).due("bidder(9, 4)", 19);
        run.does("close(19)")
                .due("bidder(9, 1)", 200).due("bidder(9, 2)", 40).due("bidder(9, 3)", 240).due("bidder(9, 4)", 20)
                .due("bidder(9, 5)", 200).due("bidder(9, 6)", 0)
                .due("seller(5, 0)", 200).due("seller(5, 1)", 100).due("seller(5, 2)", 0).due("seller(5, 3)", 100)
                .due("seller(5, 4)", 20)
                .due("house(0)", 140).due("house(1)", 200).due("house(2)", 240).due("house(3)", 100)
                .due("audit()", 0).due("lots(2)", 20);
    }

    private static void greatSums() {
        Run run = new Run("1 for the sum of all prices")
                .does("setRows(0, 0, 9)").each(0, 1, "setCredit(#, 999999)").times(18, "addLot(0, 1, 0)");
        // Ten lots of 99999 are 999990, which a credit can just bear.
        for (int lot = 0; lot < 10; lot++) {
            run.does("open(" + lot + ")").does("bid(" + lot + ", 0, 99990)").does("bid(" + lot + ", 1, 99999)")
                    .due("close(" + lot + ")", 99999);
        }
        run.due("bidder(1, 1)", 999990).due("bidder(1, 2)", 124490).due("bidder(1, 3)", 1124480)
                .due("bidder(1, 4)", 10).due("bidder(1, 5)", 999990)
                .due("seller(0, 0)", 999990).due("seller(0, 1)", 99990).due("seller(0, 3)", 900000)
                .due("house(0)", 224480).due("house(2)", 1124480)
                .does("open(10)")
                .due("bid(10, 1, 9)", 9)
                .does("open(11)").refused("bid(11, 1, 9)", 5);
    }

    private static void soldShare() {
        new Run("Returns the quotient of both numbers as doubles.")
                .throwsArithmetic("soldShare()")
                .times(3, "addLot(0, 1, 0)").does("addLot(0, 1, 100)").each(0, 3, "order(#, 1, 50)")
                .throwsArithmetic("soldShare()")
                .each(0, 3, "open(#)")
                .throwsArithmetic("soldShare()")
                .does("close(0)").due("soldShare()", 1.0)
                .does("close(3)").due("soldShare()", 0.5)
                .does("close(1)").due("soldShare()", 2.0 / 3.0)
                .does("close(2)").due("soldShare()", 0.75)
                .does("offer(3, 99)").due("soldShare()", 0.75)
                .does("open(3)").does("close(3)").due("soldShare()", 0.6);
        new Run("Returns the quotient of both numbers as doubles.")
                .does("addLot(0, 1, 100)").does("open(0)").does("close(0)").due("soldShare()", 0.0)
                .does("undo()").throwsArithmetic("soldShare()");
    }

    public static void main(String[] args) {
        premiums();
        premiumPrices();
        commissions();
        fees();
        feesEachTime();
        bidderAccount();
        premiumsOfLots();
        sellerAccount();
        houseAccount();
        openLotsOfABidder();
        twentyLots();
        greatSums();
        soldShare();
        Expect.end();
    }
}

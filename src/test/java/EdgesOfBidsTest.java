/** The edges of the sentences on the standing and on bids, and of promises 15 to 18 and 20. */
public final class EdgesOfBidsTest {
    private EdgesOfBidsTest() {
    }

    // Standing.

    private static void leader() {
        new Run("The leader of an open lot is the bidder with the greatest limit that counts; of several, the one "
                + "whose limit has the least time.")
                .does("addLot(0, 1, 0)").does("open(0)")
                .does("order(0, 8, 100)").due("standing(0, 1)", 8)
                .does("order(0, 1, 119)").due("standing(0, 1)", 8)
                .does("order(0, 2, 140)").due("standing(0, 1)", 2)
                .does("bid(0, 1, 140)").due("standing(0, 1)", 2)
                .does("bid(0, 8, 160)").due("standing(0, 1)", 8);
    }

    private static void houseLeads() {
        new Run("If the limit of the house is greater than those of all bidders, the house leads")
                .does("addLot(0, 1, 100)").does("open(0)")
                .due("standing(0, 1)", 10).due("standing(0, 4)", 90).due("standing(0, 5)", 0)
                .does("bid(0, 3, 80)")
                .due("standing(0, 1)", 10).due("standing(0, 4)", 90).due("standing(0, 5)", 80)
                .due("standing(0, 0)", 90)
                .does("order(0, 4, 99)")
                .due("standing(0, 1)", 4).due("standing(0, 4)", 90).due("standing(0, 5)", 90)
                .does("order(0, 5, 100)")
                .due("standing(0, 1)", 5).due("standing(0, 4)", 100).due("standing(0, 5)", 90);
    }

    private static void nobodyLeads() {
        new Run("if no limit counts and that of the house is 0, nobody leads")
                .does("addLot(0, 1, 10)").does("addLot(0, 1, 11)").does("order(0, 3, 9)").does("order(1, 3, 9)")
                .due("open(0)", 0).due("open(1)", 10)
                .due("standing(0, 0)", 0).due("standing(0, 1)", -1).due("standing(0, 2)", 10)
                .due("standing(0, 3)", 0).due("standing(0, 4)", 0).due("standing(0, 5)", 0)
                .due("standing(0, 6)", 0)
                .due("standing(1, 0)", 10).due("standing(1, 1)", 10).due("standing(1, 2)", 20)
                .due("standing(1, 3)", 0).due("standing(1, 4)", 10).due("standing(1, 5)", 0)
                .due("standing(1, 6)", 0);
    }

    private static void price() {
        new Run("the lesser one of the limit of the leader and the least step that is greater than the second limit")
                .does("addLot(0, 1, 0)").does("open(0)")
                .due("bid(0, 0, 120)", 10)
                .due("bid(0, 1, 80)", 90)
                .due("bid(0, 2, 100)", 120)
                .due("bid(0, 3, 140)", 140)
                .due("bid(0, 4, 160)", 160)
                .does("order(0, 5, 160)").due("standing(0, 0)", 160)
                .does("order(0, 4, 179)").due("standing(0, 0)", 160)
                .does("order(0, 4, 180)").due("standing(0, 0)", 180)
                .does("order(0, 4, 200)").due("standing(0, 0)", 180);
    }

    private static void reserveMet() {
        new Run("The reserve is met if a bidder leads and the price is at least the reserve.")
                .does("addLot(0, 1, 100)").does("addLot(0, 1, 101)").does("addLot(0, 1, 0)").does("addLot(0, 1, 120)")
                .each(0, 3, "open(#)")
                // The house would lead at 90, so that a bidder with 100 has the price 100.
                .due("standing(0, 3)", 0)
                .does("bid(0, 1, 90)").due("standing(0, 0)", 90).due("standing(0, 3)", 0)
                .does("bid(0, 2, 100)").due("standing(0, 0)", 100).due("standing(0, 3)", 1)
                .does("bid(1, 1, 100)").due("standing(1, 0)", 100).due("standing(1, 3)", 0)
                .does("bid(1, 2, 120)").due("standing(1, 0)", 120).due("standing(1, 3)", 1)
                .due("standing(2, 3)", 0)
                .does("bid(2, 1, 10)").due("standing(2, 3)", 1)
                .does("bid(3, 1, 100)").due("standing(3, 0)", 100).due("standing(3, 3)", 0)
                .does("order(3, 1, 120)").due("standing(3, 0)", 120).due("standing(3, 3)", 1);
    }

    private static void ask() {
        new Run("The ask is the least step that is greater than the price.")
                .does("addLot(0, 1, 0)").does("open(0)")
                .due("standing(0, 2)", 10)
                .does("bid(0, 0, 10)").due("standing(0, 2)", 20)
                .does("bid(0, 1, 90)").due("standing(0, 0)", 20).due("standing(0, 2)", 30)
                .does("bid(0, 2, 90)").due("standing(0, 0)", 90).due("standing(0, 2)", 100)
                .does("bid(0, 3, 100)").due("standing(0, 2)", 120);
    }

    // Bids.

    private static void lotsThatAreNotOpen() {
        new Run("1, the lot is not open")
                .times(6, "addLot(0, 2, 50)")
                .refused("bid(0, 1, 50)", 1)
                .does("open(0)").due("bid(0, 1, 50)", 50)
                .does("close(0)").due("lot(0, 0)", 2).refused("bid(0, 2, 60)", 1)
                .does("open(1)").does("close(1)").refused("bid(1, 2, 60)", 1)
                .does("withdraw(2)").refused("bid(2, 2, 60)", 1)
                .does("split(3, 2)").refused("bid(3, 2, 60)", 1)
                .does("group(4, 5)").refused("bid(5, 2, 60)", 1)
                .does("offer(1, 0)").refused("bid(1, 2, 60)", 1)
                .does("open(1)").due("bid(1, 2, 60)", 10);
    }

    private static void theBidderLeads() {
        new Run("2, the bidder leads")
                .does("addLot(0, 1, 0)").does("open(0)")
                .does("bid(0, 1, 50)")
                .refused("bid(0, 1, 60)", 2)
                .due("bid(0, 2, 50)", 50)
                .refused("bid(0, 1, 60)", 2)
                .due("bid(0, 2, 60)", 60)
                .refused("bid(0, 2, 70)", 2)
                .due("bid(0, 1, 70)", 70);
    }

    private static void lessThanTheAsk() {
        new Run("3, the amount is less than the ask")
                .does("setRows(0, 0, 1)").does("setRows(1, 10, 5)").does("addLot(0, 1, 0)").does("open(0)")
                .due("standing(0, 2)", 1)
                .due("bid(0, 0, 10)", 1)
                .refused("bid(0, 1, 1)", 3)
                .due("bid(0, 1, 2)", 3)
                .refused("bid(0, 1, 3)", 3)
                .due("bid(0, 1, 10)", 10)
                .refused("bid(0, 1, 14)", 3)
                .due("bid(0, 1, 15)", 15);
    }

    private static void noStep() {
        new Run("4, the amount is not a step")
                .does("addLot(0, 1, 0)").does("open(0)")
                .refused("bid(0, 1, 99)", 4).refused("bid(0, 1, 101)", 4).refused("bid(0, 1, 110)", 4)
                .refused("bid(0, 1, 119)", 4)
                .due("bid(0, 1, 120)", 10)
                .refused("bid(0, 2, 501)", 4).refused("bid(0, 2, 510)", 4).refused("bid(0, 2, 549)", 4)
                .due("bid(0, 2, 550)", 140);
    }

    private static void credit() {
        new Run("5, the amount plus the exposure of the bidder is greater than the credit")
                .times(3, "addLot(0, 1, 0)").each(0, 2, "open(#)")
                .does("setCredit(1, 99)").refused("bid(0, 1, 100)", 5)
                .does("setCredit(1, 100)").due("bid(0, 1, 100)", 10)
                .refused("bid(1, 1, 10)", 5)
                .does("setCredit(1, 109)").refused("bid(1, 1, 10)", 5)
                .does("setCredit(1, 110)").due("bid(1, 1, 10)", 10)
                .due("bidder(1, 5)", 110)
                // Bought at 10: the price counts then, and not the limit.
                .due("close(0)", 10).due("bidder(1, 5)", 20)
                .refused("bid(2, 1, 100)", 5)
                .due("bid(2, 1, 90)", 10)
                // Another leads: the limit does not count any longer.
                .due("bid(2, 2, 100)", 100).due("bidder(1, 5)", 20)
                .does("setCredit(1, 139)").refused("bid(2, 1, 120)", 5)
                .does("setCredit(1, 140)").due("bid(2, 1, 120)", 120);
    }

    private static void firstReasonOfABid() {
        new Run("A live bid on a lot is refused for the first of these reasons")
                .times(2, "addLot(0, 1, 0)").does("setCredit(1, 100)")
                .refused("bid(1, 1, 99999)", 1)
                .does("open(0)").does("order(0, 1, 100)")
                // The bidder leads, and the amount is less than the ask, no step, and above the credit.
                .refused("bid(0, 1, 5)", 2).refused("bid(0, 1, 99999)", 2)
                .does("order(0, 2, 200)").due("standing(0, 2)", 140)
                .does("setCredit(1, 0)")
                .refused("bid(0, 1, 120)", 3).refused("bid(0, 1, 139)", 3)
                .refused("bid(0, 1, 141)", 4)
                .refused("bid(0, 1, 140)", 5);
    }

    private static void askAboveAllAmounts() {
        // The steps are the multiples of 9, of which 99999 is one.
        new Run("If the ask is greater than 99999, each amount is refused by 3.")
                .does("setRows(0, 0, 9)").does("addLot(0, 1, 0)").does("open(0)")
                .each(0, 2, "setCredit(#, 999999)")
                .does("bid(0, 0, 99981)").due("bid(0, 1, 99990)", 99990)
                .due("standing(0, 2)", 99999)
                .refused("bid(0, 0, 99998)", 3)
                .due("bid(0, 0, 99999)", 99999)
                .due("standing(0, 2)", 100008)
                .refused("bid(0, 1, 99999)", 3).refused("bid(0, 1, 1)", 3)
                .due("wouldRefuse(false, 0, 1, 90000)", 3).due("wouldRefuse(false, 0, 1, 1)", 3)
                .due("wouldRefuse(false, 0, 0, 1)", 2);
    }

    private static void exposure() {
        new Run("The exposure of a bidder is the sum of the prices of all lots that the bidder bought, and of the "
                + "limits of the bidder on all open lots on which the bidder leads.")
                .times(4, "addLot(0, 1, 0)")
                .due("bidder(4, 5)", 0)
                .does("order(0, 4, 319)").due("bidder(4, 5)", 0)
                .does("open(0)").due("bidder(4, 5)", 300)
                .does("open(1)").due("bid(1, 4, 50)", 10).due("bidder(4, 5)", 350)
                .does("bid(0, 5, 300)").due("bidder(4, 5)", 350).due("bidder(5, 5)", 0)
                .does("bid(0, 5, 320)").due("bidder(4, 5)", 50).due("bidder(5, 5)", 320)
                .due("close(1)", 10).due("bidder(4, 5)", 10)
                .due("close(0)", 320).due("bidder(5, 5)", 320)
                // The limit of the house is no bidder's exposure.
                .does("addLot(0, 1, 1000)").does("open(4)").does("bid(4, 4, 900)").due("bidder(4, 5)", 10);
    }

    // Promises 15 to 18 and 20.

    private static void bidAmounts() {
        new Run("the amount, 1 to 99999")
                .does("setRows(0, 0, 9)").does("addLot(0, 1, 0)").does("open(0)").does("setCredit(3, 999999)")
                .throwsArgument("bid(0, 3, 0)").throwsArgument("bid(0, 3, -1)")
                .refused("bid(0, 3, 1)", 3)
                .throwsArgument("bid(0, 3, 100000)")
                .due("bid(0, 3, 99999)", 9).due("limit(0, 0, 1)", 99999);
        new Run("the amount, 1 to 99999")
                .does("setRows(0, 0, 1)").does("addLot(0, 1, 0)").does("open(0)")
                .due("bid(0, 3, 1)", 1);
    }

    private static void bidExceptions() {
        new Run("IndexOutOfBoundsException if there is no such lot or bidder")
                .throwsIndex("bid(0, 0, 10)")
                .times(2, "addLot(0, 1, 0)")
                .throwsIndex("bid(-1, 0, 10)").throwsIndex("bid(2, 0, 10)")
                .throwsIndex("bid(0, -1, 10)").throwsIndex("bid(0, 10, 10)")
                .throwsIndex("bid(2, 0, 0)").throwsIndex("bid(0, 10, 100000)")
                .throwsArgument("bid(0, 0, 0)").throwsArgument("bid(0, 0, 100000)")
                .does("open(1)")
                .due("bid(1, 0, 10)", 10).due("bid(1, 9, 20)", 20);
    }

    private static void refusal() {
        new Run("NoSuchElementException if none was refused")
                .throwsElement("refusal()")
                .does("addLot(0, 1, 0)").due("wouldRefuse(false, 0, 0, 10)", 1)
                .throwsElement("refusal()")
                .does("open(0)").does("bid(0, 0, 10)")
                .throwsElement("refusal()")
                .throwsArgument("bid(0, 0, 0)").throwsIndex("bid(1, 0, 10)")
                .throwsElement("refusal()")
                .refused("bid(0, 0, 20)", 2)
                .refused("bid(0, 1, 19)", 3)
                .due("order(0, 1, 50)", 1).due("refusal()", 3)
                .due("wouldRefuse(true, 0, 1, 50)", 7).due("refusal()", 3);
    }

    private static void wouldRefuse() {
        new Run("the amount or maximum, 1 to 90000")
                .times(2, "addLot(0, 1, 0)").each(0, 1, "setCredit(#, 999999)").does("open(0)")
                .throwsArgument("wouldRefuse(false, 0, 0, 0)").due("wouldRefuse(false, 0, 0, 1)", 3)
                .due("wouldRefuse(false, 0, 0, 90000)", 0).throwsArgument("wouldRefuse(false, 0, 0, 90001)")
                .throwsArgument("wouldRefuse(true, 0, 0, 0)").due("wouldRefuse(true, 0, 0, 1)", 0)
                .due("wouldRefuse(true, 0, 0, 90000)", 0).throwsArgument("wouldRefuse(true, 0, 0, 90001)")
                .throwsIndex("wouldRefuse(true, -1, 0, 1)").throwsIndex("wouldRefuse(true, 2, 0, 0)")
                .throwsIndex("wouldRefuse(false, 0, -1, 1)").throwsIndex("wouldRefuse(false, 0, 10, 0)")
                .due("wouldRefuse(false, 1, 0, 10)", 1).due("wouldRefuse(true, 1, 9, 10)", 0);
    }

    private static void standingExceptions() {
        new Run("Returns a number of the standing of an open lot.")
                .throwsIndex("standing(0, 0)")
                .times(2, "addLot(0, 1, 0)").does("open(1)")
                .throwsIndex("standing(-1, 0)").throwsIndex("standing(2, 0)").throwsIndex("standing(2, 7)")
                .throwsArgument("standing(1, -1)").due("standing(1, 0)", 0)
                .due("standing(1, 6)", 0).throwsArgument("standing(1, 7)")
                .throwsArgument("standing(0, 7)").throwsState("standing(0, 0)").throwsState("standing(0, 6)")
                .each(0, 9, "order(1, #, 10)")
                .due("standing(1, 6)", 10)
                .does("close(1)").throwsState("standing(1, 0)");
    }

    private static void priceIf() {
        new Run("A step that is not above the own limit changes nothing.")
                .does("addLot(0, 1, 0)").does("order(0, 1, 200)").does("order(0, 2, 300)").does("open(0)")
                .due("standing(0, 0)", 220)
                .due("priceIf(0, 1, 180)", 220).due("priceIf(0, 1, 200)", 220)
                .due("priceIf(0, 1, 220)", 240)
                .due("priceIf(0, 2, 280)", 220).due("priceIf(0, 2, 300)", 220).due("priceIf(0, 2, 320)", 220)
                .due("priceIf(0, 1, 280)", 300).due("priceIf(0, 1, 300)", 300).due("priceIf(0, 1, 320)", 320)
                .due("priceIf(0, 1, 340)", 320)
                .due("priceIf(0, 9, 10)", 220)
                .due("standing(0, 0)", 220).due("standing(0, 6)", 2);
    }

    private static void priceIfRefused() {
        new Run("as a live bid would, whether it would be refused or not")
                .does("addLot(0, 1, 0)").does("setCredit(3, 0)").does("open(0)")
                .does("order(0, 2, 100)")
                .due("wouldRefuse(false, 0, 3, 50)", 5).due("priceIf(0, 3, 50)", 60)
                .due("wouldRefuse(false, 0, 3, 10)", 3).due("priceIf(0, 3, 10)", 20)
                .due("wouldRefuse(false, 0, 2, 200)", 2).due("priceIf(0, 2, 200)", 10);
    }

    private static void priceIfTheHouseLeads() {
        new Run("Returns what a lot would cost if a bidder raised the own limit on it to a step")
                .does("addLot(0, 1, 500)").does("addLot(0, 1, 0)").each(0, 1, "open(#)")
                .due("priceIf(0, 3, 10)", 20).due("priceIf(0, 3, 460)", 480)
                .due("priceIf(0, 3, 480)", 480).due("priceIf(0, 3, 500)", 500).due("priceIf(0, 3, 550)", 500)
                .due("priceIf(1, 3, 10)", 10).due("priceIf(1, 3, 99900)", 10);
    }

    private static void priceIfExceptions() {
        new Run("IllegalArgumentException if the amount is not a step up to 99999")
                .does("setRows(0, 0, 9)").times(2, "addLot(0, 1, 0)").does("open(0)")
                .throwsArgument("priceIf(0, 0, 0)").throwsArgument("priceIf(0, 0, -9)")
                .throwsArgument("priceIf(0, 0, 8)").due("priceIf(0, 0, 9)", 9).throwsArgument("priceIf(0, 0, 10)")
                .throwsArgument("priceIf(0, 0, 99998)").due("priceIf(0, 0, 99999)", 9)
                .throwsArgument("priceIf(0, 0, 100008)")
                .throwsIndex("priceIf(-1, 0, 9)").throwsIndex("priceIf(2, 0, 10)")
                .throwsIndex("priceIf(0, -1, 9)").throwsIndex("priceIf(0, 10, 10)")
                .throwsArgument("priceIf(1, 0, 10)").throwsState("priceIf(1, 0, 9)")
                .due("priceIf(0, 9, 9)", 9);
        new Run("IllegalArgumentException if the amount is not a step up to 99999")
                .does("setRows(0, 0, 1)").does("addLot(0, 1, 0)").does("open(0)")
                .throwsArgument("priceIf(0, 0, 0)").due("priceIf(0, 0, 1)", 1).due("priceIf(0, 0, 2)", 1);
    }

    public static void main(String[] args) {
        leader();
        houseLeads();
        nobodyLeads();
        price();
        reserveMet();
        ask();
        lotsThatAreNotOpen();
        theBidderLeads();
        lessThanTheAsk();
        noStep();
        credit();
        firstReasonOfABid();
        askAboveAllAmounts();
        exposure();
        bidAmounts();
        bidExceptions();
        refusal();
        wouldRefuse();
        standingExceptions();
        priceIf();
        priceIfRefused();
        priceIfTheHouseLeads();
        priceIfExceptions();
        Expect.end();
    }
}

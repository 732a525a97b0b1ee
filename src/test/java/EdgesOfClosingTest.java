/** The edges of the sentences on closing, and of promises 21 to 23, 26 and 27. */
public final class EdgesOfClosingTest {
    private EdgesOfClosingTest() {
    }

    private static void reserveMetOrNot() {
        new Run("it is sold to the leader at the price if the reserve is met; otherwise it is bought in")
                .does("addLot(0, 1, 100)").does("addLot(0, 1, 101)").does("addLot(0, 1, 100)").does("addLot(0, 1, 0)")
                .does("order(0, 1, 100)").does("order(1, 1, 100)").does("order(2, 1, 99)").does("order(3, 1, 9)")
                .each(0, 3, "open(#)")
                .due("close(0)", 100).due("lot(0, 0)", 2).due("sold(0, false)", 1).due("sold(0, true)", 100)
                .due("close(1)", 0).due("lot(1, 0)", 3)
                .due("close(2)", 0).due("lot(2, 0)", 3)
                .due("close(3)", 0).due("lot(3, 0)", 3);
    }

    private static void leastPrice() {
        new Run("Returns the price if it is sold, 0 if it is bought in.")
                .does("setRows(0, 0, 1)").times(2, "addLot(0, 1, 0)").each(0, 1, "open(#)")
                .does("bid(0, 6, 1)")
                .due("close(0)", 1).due("sold(0, true)", 1)
                .due("close(1)", 0).throwsElement("sold(1, true)");
        new Run("Returns the price if it is sold, 0 if it is bought in.")
                .does("setRows(0, 0, 9)").does("addLot(0, 1, 0)").each(0, 1, "setCredit(#, 999999)").does("open(0)")
                .does("bid(0, 0, 99990)").does("bid(0, 1, 99999)")
                .due("close(0)", 99999).due("sold(0, false)", 1).due("house(1)", 99999);
    }

    private static void ordersOfClosedLots() {
        new Run("Its orders are removed then.")
                .does("addLot(0, 1, 0)").does("addLot(0, 1, 5000)").does("addLot(0, 1, 0)")
                .each(0, 9, "order(0, #, 50)").each(0, 9, "order(1, #, 50)").each(0, 9, "order(2, #, 50)")
                .does("open(0)").due("orders(0)", 10)
                .does("close(0)").due("orders(0)", 0).due("orders(-1)", 20)
                .does("open(1)").does("close(1)").due("orders(1)", 0).due("orders(-1)", 10)
                .due("orders(2)", 10);
    }

    private static void close() {
        new Run("Closes an open lot.")
                .throwsIndex("close(0)")
                .times(6, "addLot(0, 2, 50)")
                .throwsIndex("close(-1)").throwsIndex("close(6)")
                .throwsState("close(0)")
                .does("open(0)").does("bid(0, 1, 50)").due("close(0)", 50)
                .throwsState("close(0)")
                .does("open(1)").due("close(1)", 0)
                .throwsState("close(1)")
                .does("withdraw(2)").throwsState("close(2)")
                .does("split(3, 2)").throwsState("close(3)")
                .does("group(4, 5)").throwsState("close(4)").throwsState("close(5)")
                .does("offer(1, 0)").throwsState("close(1)");
    }

    private static void withdraw() {
        new Run("Withdraws a waiting lot. Its orders are removed.")
                .throwsIndex("withdraw(0)")
                .times(8, "addLot(0, 2, 50)")
                .throwsIndex("withdraw(-1)").throwsIndex("withdraw(8)")
                .each(0, 9, "order(7, #, 60)").does("order(6, 3, 60)").does("order(0, 3, 60)")
                .does("open(0)").throwsState("withdraw(0)")
                .does("close(0)").due("lot(0, 0)", 2).throwsState("withdraw(0)")
                .does("open(1)").does("close(1)").throwsState("withdraw(1)")
                .due("withdraw(2)", 0).throwsState("withdraw(2)")
                .does("split(3, 2)").throwsState("withdraw(3)")
                .does("group(4, 5)").throwsState("withdraw(4)").throwsState("withdraw(5)")
                .due("withdraw(6)", 1).due("orders(6)", 0)
                .due("withdraw(7)", 10).due("orders(-1)", 0).due("lot(7, 0)", 4)
                .does("offer(1, 0)").due("withdraw(1)", 0);
    }

    private static void offerReserves() {
        new Run("IllegalArgumentException if the reserve is negative or not less than the previous one")
                .does("addLot(0, 1, 1000)").does("open(0)").does("close(0)")
                .throwsArgument("offer(0, 1000)").throwsArgument("offer(0, 1001)").throwsArgument("offer(0, -1)")
                .due("offer(0, 999)", 1000).due("lot(0, 0)", 0).due("lot(0, 3)", 999)
                .does("open(0)").does("close(0)")
                .throwsArgument("offer(0, 999)")
                .due("offer(0, 1)", 999)
                .does("open(0)").does("close(0)")
                .throwsArgument("offer(0, 1)")
                .due("offer(0, 0)", 1).due("lot(0, 3)", 0)
                .does("open(0)").does("close(0)")
                .throwsArgument("offer(0, 0)").throwsArgument("offer(0, -1)")
                .due("lot(0, 0)", 3).due("lot(0, 4)", 4);
    }

    private static void offerStates() {
        new Run("IllegalStateException if the lot is not bought in")
                .throwsIndex("offer(0, 0)")
                .times(6, "addLot(0, 2, 50)")
                .throwsIndex("offer(-1, 0)").throwsIndex("offer(6, 50)").throwsIndex("offer(6, -1)")
                .throwsState("offer(0, 49)").throwsArgument("offer(0, 50)").throwsArgument("offer(0, -1)")
                .does("open(0)").throwsState("offer(0, 0)")
                .does("bid(0, 1, 50)").does("close(0)").throwsState("offer(0, 0)")
                .does("withdraw(2)").throwsState("offer(2, 0)")
                .does("split(3, 2)").throwsState("offer(3, 0)")
                .does("group(4, 5)").throwsState("offer(4, 0)").throwsState("offer(5, 0)")
                .does("open(1)").does("close(1)").due("offer(1, 49)", 50)
                .throwsState("offer(1, 48)");
    }

    private static void why() {
        new Run("0 if it was sold, 1 if nobody led, 2 if the house led, 3 if a bidder led below the reserve")
                .does("addLot(0, 1, 10)").does("addLot(0, 1, 11)")
                .times(3, "addLot(0, 1, 100)").does("addLot(0, 1, 0)")
                .does("order(0, 1, 9)").does("order(1, 1, 9)")
                .does("order(2, 1, 89)").does("order(3, 1, 90)").does("order(4, 1, 100)")
                .each(0, 5, "open(#)").each(0, 5, "close(#)")
                .due("why(0)", 1).due("why(1)", 2)
                .due("why(2)", 2).due("why(3)", 3).due("why(4)", 0)
                .due("why(5)", 1);
    }

    private static void whyExceptions() {
        new Run("NoSuchElementException if it was not closed since it was made")
                .throwsIndex("why(0)")
                .does("addLot(0, 2, 50)").does("addLot(0, 2, 50)")
                .throwsIndex("why(-1)").throwsIndex("why(2)")
                .throwsElement("why(0)")
                .does("open(0)").throwsElement("why(0)")
                .does("close(0)").due("why(0)", 2)
                .does("withdraw(1)").throwsElement("why(1)")
                // A part of a lot that was closed was not closed itself.
                .does("offer(0, 40)").does("split(0, 2)")
                .due("why(0)", 2).throwsElement("why(2)").throwsElement("why(3)")
                .does("group(2, 3)").throwsElement("why(4)");
    }

    private static void latestReason() {
        new Run("The reason of the latest closing stays while a lot is offered or open again.")
                .does("addLot(0, 1, 100)")
                .does("open(0)").does("order(0, 1, 99)").does("close(0)").due("why(0)", 3)
                .does("offer(0, 99)").due("why(0)", 3)
                .does("open(0)").due("why(0)", 3)
                .does("close(0)").due("why(0)", 2)
                .does("offer(0, 10)").does("open(0)").due("why(0)", 2)
                .does("close(0)").due("why(0)", 1)
                .does("offer(0, 0)").does("open(0)").does("bid(0, 9, 10)").due("why(0)", 1)
                .does("close(0)").due("why(0)", 0)
                .does("undo()").due("why(0)", 1);
    }

    private static void sold() {
        new Run("Returns the buyer or the price of a sold lot.")
                .throwsIndex("sold(0, true)")
                .times(8, "addLot(0, 2, 50)")
                .throwsIndex("sold(-1, true)").throwsIndex("sold(8, false)")
                .throwsElement("sold(0, true)").throwsElement("sold(0, false)")
                .does("order(0, 0, 90)").does("order(6, 9, 90)")
                .does("open(0)").throwsElement("sold(0, false)")
                .does("close(0)").due("sold(0, false)", 0).due("sold(0, true)", 50)
                .does("open(1)").does("close(1)").throwsElement("sold(1, true)")
                .does("withdraw(2)").throwsElement("sold(2, true)")
                .does("split(3, 2)").throwsElement("sold(3, true)")
                .does("group(4, 5)").throwsElement("sold(4, true)").throwsElement("sold(5, true)")
                .does("open(6)").does("close(6)").due("sold(6, false)", 9);
    }

    public static void main(String[] args) {
        reserveMetOrNot();
        leastPrice();
        ordersOfClosedLots();
        close();
        withdraw();
        offerReserves();
        offerStates();
        why();
        whyExceptions();
        latestReason();
        sold();
        Expect.end();
    }
}

/** The edges of the sentences on split and grouped lots, and of promises 24 and 25. */
public final class EdgesOfSplitAndGroupTest {
    private EdgesOfSplitAndGroupTest() {
    }

    // Split lots.

    private static void quantitiesOfParts() {
        quantitiesOfParts(2, 1, 1);
        quantitiesOfParts(3, 2, 1);
        quantitiesOfParts(3, 1, 1, 1);
        quantitiesOfParts(4, 1, 1, 1, 1);
        quantitiesOfParts(5, 2, 1, 1, 1);
        quantitiesOfParts(6, 2, 2, 1, 1);
        quantitiesOfParts(7, 2, 2, 2, 1);
        quantitiesOfParts(8, 2, 2, 2, 2);
        quantitiesOfParts(19, 10, 9);
        quantitiesOfParts(20, 7, 7, 6);
        quantitiesOfParts(20, 5, 5, 5, 5);
    }

    private static void quantitiesOfParts(int quantity, int... parts) {
        Run run = new Run("the quantity is divided so that the parts differ by 1 at most, the greater ones first")
                .does("addLot(5, " + quantity + ", 0)")
                .due("split(0, " + parts.length + ")", 1)
                .due("lots(-1)", 1 + parts.length);
        for (int part = 0; part < parts.length; part++) {
            run.due("lot(" + (1 + part) + ", 2)", parts[part]);
            run.due("lot(" + (1 + part) + ", 1)", 5);
            run.due("lot(" + (1 + part) + ", 0)", 0);
        }
    }

    private static void reservesOfParts() {
        new Run("are those of the lot times the quantity of the part divided by that of the lot, rounded down")
                .does("addLot(0, 3, 101)").does("addLot(0, 20, 90000)").does("addLot(0, 3, 2)")
                .does("split(0, 2)").due("lot(3, 3)", 67).due("lot(4, 3)", 33)
                .does("split(1, 3)").due("lot(5, 3)", 31500).due("lot(6, 3)", 31500).due("lot(7, 3)", 27000)
                .does("split(2, 2)").due("lot(8, 3)", 1).due("lot(9, 3)", 0);
    }

    private static void reserveOfZero() {
        new Run("A part can have the reserve 0.")
                .does("addLot(0, 2, 1)").does("addLot(0, 2, 2)").does("addLot(0, 2, 0)")
                .does("split(0, 2)").due("lot(3, 3)", 0).due("lot(4, 3)", 0)
                .does("split(1, 2)").due("lot(5, 3)", 1).due("lot(6, 3)", 1)
                .does("split(2, 2)").due("lot(7, 3)", 0).due("lot(8, 3)", 0)
                .due("open(3)", 0);
    }

    private static void maximumsOfParts() {
        new Run("an order with the maximum 0 is left out")
                .does("addLot(0, 3, 0)")
                .does("order(0, 0, 1)").does("order(0, 1, 2)").does("order(0, 2, 3)").does("order(0, 3, 20000)")
                .due("split(0, 2)", 1)
                .throwsElement("maximum(1, 0)").throwsElement("maximum(2, 0)")
                .due("maximum(1, 1)", 1).throwsElement("maximum(2, 1)")
                .due("maximum(1, 2)", 2).due("maximum(2, 2)", 1)
                .due("maximum(1, 3)", 13333).due("maximum(2, 3)", 6666)
                .due("orders(1)", 3).due("orders(2)", 2).due("orders(-1)", 5);
        new Run("the maximum of the order of a bidder for it")
                .does("addLot(0, 20, 0)").does("setCredit(9, 90000)").does("order(0, 9, 90000)")
                .does("split(0, 3)")
                .due("maximum(1, 9)", 31500).due("maximum(2, 9)", 31500).due("maximum(3, 9)", 27000);
    }

    private static void numbersOfParts() {
        new Run("orders with the maximum 0, which are left out, use up no number")
                .does("setRows(0, 0, 1)").does("addLot(0, 3, 0)")
                .does("order(0, 9, 2)").does("order(0, 4, 1)").does("order(0, 1, 300)")
                .does("split(0, 2)").does("open(1)").does("open(2)")
                // For the parts one after the other, and for each of them by ascending bidders.
                .due("limit(1, 0, 0)", 1).due("limit(1, 0, 2)", 4)
                .due("limit(1, 1, 0)", 9).due("limit(1, 1, 2)", 5)
                .due("limit(2, 0, 0)", 1).due("limit(2, 0, 2)", 6)
                .throwsElement("limit(2, 1, 0)")
                .does("order(2, 0, 5)").due("limit(2, 1, 2)", 7);
    }

    private static void oldOrdersOfASplitLot() {
        new Run("the orders for the old lots are removed")
                .does("addLot(0, 2, 0)").does("addLot(0, 2, 0)")
                .does("order(0, 1, 1)").does("order(1, 1, 1)")
                .does("split(0, 2)")
                .due("orders(0)", 0).throwsElement("maximum(0, 1)").due("orders(1)", 1).due("orders(-1)", 1)
                .does("group(2, 1)")
                .due("orders(1)", 0).due("orders(-1)", 0);
    }

    private static void numberOfParts() {
        new Run("the number of parts, 2 to 4")
                .does("addLot(0, 20, 0)").does("addLot(0, 20, 0)")
                .throwsArgument("split(0, 1)").throwsArgument("split(0, 0)").throwsArgument("split(0, -2)")
                .throwsArgument("split(0, 5)")
                .due("split(0, 2)", 2).due("split(1, 4)", 4);
    }

    private static void quantityTooSmall() {
        new Run("if the number of parts is out of range or greater than the quantity")
                .each(1, 4, "addLot(0, #, 0)")
                .throwsArgument("split(0, 2)")
                .throwsArgument("split(1, 3)").due("split(1, 2)", 4)
                .throwsArgument("split(2, 4)").due("split(2, 3)", 6)
                .throwsArgument("split(3, 5)").due("split(3, 4)", 9);
    }

    private static void splitStates() {
        new Run("IllegalStateException if it is not waiting")
                .throwsIndex("split(0, 2)")
                .times(6, "addLot(0, 2, 50)")
                .throwsIndex("split(-1, 2)").throwsIndex("split(6, 2)").throwsIndex("split(6, 5)")
                .does("open(0)").throwsState("split(0, 2)").throwsArgument("split(0, 3)")
                .does("bid(0, 1, 50)").does("close(0)").throwsState("split(0, 2)")
                .does("open(1)").does("close(1)").throwsState("split(1, 2)")
                .does("withdraw(2)").throwsState("split(2, 2)")
                .does("split(3, 2)").throwsState("split(3, 2)").throwsArgument("split(3, 1)")
                .does("group(4, 5)").throwsState("split(4, 2)").throwsState("split(5, 2)")
                .does("offer(1, 0)").due("split(1, 2)", 9);
    }

    private static void lotsMadeBySplitting() {
        new Run("or more than 20 lots would have been made")
                .times(17, "addLot(0, 4, 0)")
                .throwsState("split(0, 4)")
                .due("split(0, 3)", 17).due("lots(-1)", 20)
                .throwsState("split(1, 2)")
                .does("undo()").does("addLot(0, 4, 0)")
                .throwsState("split(0, 3)").throwsArgument("split(0, 5)")
                .due("split(0, 2)", 18)
                .does("undo()").does("addLot(0, 4, 0)")
                .throwsState("split(0, 2)").throwsArgument("split(0, 1)");
    }

    /** Lots 0 to 2 with ten orders each, and more on the lots 3 and 4. */
    private static Run withThirtyOrders(String sentence) {
        return new Run(sentence).times(5, "addLot(0, 4, 0)")
                .each(0, 9, "order(0, #, 50)").each(0, 9, "order(1, #, 50)").each(0, 9, "order(2, #, 50)");
    }

    private static void ordersMadeBySplitting() {
        String sentence = "Whether there would be more than 40 orders is counted with the orders that are removed no "
                + "longer kept.";
        withThirtyOrders(sentence)
                .each(0, 4, "order(3, #, 50)").does("order(4, 0, 50)")
                // 31 and twice 5 are 41.
                .throwsState("split(3, 2)").throwsState("split(3, 4)")
                .does("cancel(4, 0)")
                .throwsState("split(3, 3)")
                .due("split(3, 2)", 5).due("orders(-1)", 40);
        withThirtyOrders(sentence)
                .each(0, 9, "order(3, #, 1)").due("orders(-1)", 40)
                // All the maximums are 1, of which no part has anything.
                .due("split(3, 4)", 5).due("orders(-1)", 30);
    }

    private static void leftOutOrdersAreNotCounted() {
        withThirtyOrders("an order with the maximum 0 is left out")
                .each(0, 4, "order(3, #, 2)").each(5, 9, "order(3, #, 1)")
                .due("split(3, 2)", 5).due("orders(-1)", 40)
                .due("maximum(6, 4)", 1).throwsElement("maximum(6, 5)");
        withThirtyOrders("an order with the maximum 0 is left out")
                .each(0, 5, "order(3, #, 2)").each(6, 9, "order(3, #, 1)")
                .throwsState("split(3, 2)");
    }

    // Grouped lots.

    private static void sumsOfGroups() {
        new Run("a new waiting lot of their seller is made with the sums of their quantities and reserves")
                .does("addLot(4, 19, 89999)").does("addLot(4, 1, 1)").does("addLot(4, 2, 0)").does("addLot(4, 1, 2)")
                .throwsArgument("group(0, 2)").throwsArgument("group(2, 0)")
                .throwsArgument("group(0, 3)").throwsArgument("group(3, 0)")
                .due("group(0, 1)", 4)
                .due("lot(4, 0)", 0).due("lot(4, 1)", 4).due("lot(4, 2)", 20).due("lot(4, 3)", 90000)
                .due("lot(4, 4)", 0).due("lot(0, 0)", 6).due("lot(1, 0)", 6)
                .throwsArgument("group(4, 3)")
                .due("group(3, 2)", 5).due("lot(5, 2)", 3).due("lot(5, 3)", 2);
    }

    private static void maximumsOfGroups() {
        new Run("with the sum of the maximums, but at most 90000")
                .times(2, "addLot(0, 1, 0)").each(0, 4, "setCredit(#, 999999)")
                .does("order(0, 0, 45000)").does("order(1, 0, 44999)")
                .does("order(0, 1, 45000)").does("order(1, 1, 45000)")
                .does("order(0, 2, 45000)").does("order(1, 2, 45001)")
                .does("order(0, 3, 90000)").does("order(1, 3, 90000)")
                .does("order(0, 4, 1)").does("order(1, 4, 1)")
                .does("group(0, 1)")
                .due("maximum(2, 0)", 89999).due("maximum(2, 1)", 90000).due("maximum(2, 2)", 90000)
                .due("maximum(2, 3)", 90000).due("maximum(2, 4)", 2)
                .due("orders(-1)", 5);
    }

    private static void ordersForOneLotAlone() {
        new Run("Of a group, an order for one of both lots alone is removed.")
                .times(2, "addLot(0, 1, 0)")
                .does("order(0, 0, 50)").does("order(1, 1, 60)").does("order(0, 2, 70)").does("order(1, 2, 80)")
                .does("group(0, 1)")
                .throwsElement("maximum(2, 0)").throwsElement("maximum(2, 1)").due("maximum(2, 2)", 150)
                .throwsElement("maximum(0, 0)").throwsElement("maximum(1, 1)")
                .due("orders(-1)", 1)
                .does("open(2)").due("limit(2, 0, 2)", 5);
    }

    private static void groupsOfManyOrders() {
        new Run("each bidder with orders for both has an order for it")
                .times(4, "addLot(0, 1, 0)")
                .each(0, 9, "order(0, #, 50)").each(0, 9, "order(1, #, 50)")
                .each(0, 9, "order(2, #, 50)").each(0, 9, "order(3, #, 50)")
                .due("group(0, 1)", 4).due("orders(-1)", 30).due("orders(4)", 10)
                .due("group(2, 3)", 5).due("orders(-1)", 20)
                .does("open(5)").due("limit(5, 0, 2)", 51).due("limit(5, 9, 2)", 60);
    }

    private static void groupArguments() {
        new Run("if both are the same or belong to different sellers")
                .throwsIndex("group(0, 0)")
                .does("addLot(0, 1, 0)").does("addLot(1, 1, 0)").does("addLot(0, 1, 0)")
                .throwsArgument("group(0, 0)").throwsArgument("group(0, 1)").throwsArgument("group(1, 0)")
                .throwsIndex("group(0, 3)").throwsIndex("group(3, 0)").throwsIndex("group(0, -1)")
                .throwsIndex("group(-1, 0)").throwsIndex("group(3, 3)")
                .does("open(0)").does("withdraw(1)")
                .throwsArgument("group(0, 0)").throwsArgument("group(0, 1)")
                .throwsState("group(0, 2)");
    }

    private static void groupStates() {
        new Run("IllegalStateException if one of them is not waiting")
                .times(7, "addLot(0, 2, 50)")
                .does("open(0)").throwsState("group(0, 6)").throwsState("group(6, 0)")
                .does("bid(0, 1, 50)").does("close(0)").throwsState("group(0, 6)").throwsState("group(6, 0)")
                .does("open(1)").does("close(1)").throwsState("group(1, 6)").throwsState("group(6, 1)")
                .does("withdraw(2)").throwsState("group(2, 6)").throwsState("group(6, 2)")
                .does("split(3, 2)").throwsState("group(3, 6)").throwsState("group(6, 3)")
                .does("group(4, 5)").throwsState("group(4, 6)").throwsState("group(6, 5)")
                .does("offer(1, 0)").due("group(1, 6)", 10);
    }

    private static void groupsOfTwentyLots() {
        new Run("or 20 lots were made")
                .times(19, "addLot(0, 10, 0)").does("addLot(1, 1, 0)")
                .throwsState("group(0, 1)").throwsArgument("group(0, 19)").throwsArgument("group(0, 0)")
                .does("undo()")
                .due("group(0, 1)", 19).throwsState("group(2, 3)");
    }

    public static void main(String[] args) {
        quantitiesOfParts();
        reservesOfParts();
        reserveOfZero();
        maximumsOfParts();
        numbersOfParts();
        oldOrdersOfASplitLot();
        numberOfParts();
        quantityTooSmall();
        splitStates();
        lotsMadeBySplitting();
        ordersMadeBySplitting();
        leftOutOrdersAreNotCounted();
        sumsOfGroups();
        maximumsOfGroups();
        ordersForOneLotAlone();
        groupsOfManyOrders();
        groupArguments();
        groupStates();
        groupsOfTwentyLots();
        Expect.end();
    }
}

/** The edges of the sentences on orders and limits, and of promises 10 to 14 and 19. */
public final class EdgesOfOrdersTest {
    private EdgesOfOrdersTest() {
    }

    /** Forty orders: ten for each of the lots 0 to 3 of five. */
    private static Run withOrders(String sentence, int orders) {
        Run run = new Run(sentence).times(5, "addLot(0, 1, 0)");
        for (int i = 0; i < orders; i++) {
            run.due("order(" + i / 10 + ", " + i % 10 + ", 50)", i + 1);
        }
        return run;
    }

    // Orders.

    private static void maximums() {
        new Run("An order of a bidder for a lot has a maximum from 1 to 90000.")
                .does("addLot(0, 1, 0)").does("setCredit(0, 999999)").does("setCredit(1, 999999)")
                .throwsArgument("order(0, 0, 0)").throwsArgument("order(0, 0, -1)")
                .due("order(0, 0, 1)", 1).due("maximum(0, 0)", 1)
                .due("order(0, 1, 90000)", 2).due("maximum(0, 1)", 90000)
                .throwsArgument("order(0, 0, 90001)");
    }

    private static void oneOrderForALot() {
        new Run("A bidder has at most one order for a lot.")
                .does("addLot(0, 1, 0)").does("addLot(0, 1, 0)")
                .due("order(0, 4, 50)", 1)
                .due("order(0, 4, 51)", 1)
                .due("orders(0)", 1).due("maximum(0, 4)", 51)
                .due("order(1, 4, 50)", 2)
                .due("orders(0)", 1).due("orders(1)", 1).due("orders(-1)", 2);
    }

    private static void fortyOrders() {
        withOrders("At most 40 orders are kept.", 39)
                .due("orders(-1)", 39)
                .due("wouldRefuse(true, 4, 0, 50)", 0)
                .due("order(3, 9, 50)", 40)
                .due("wouldRefuse(true, 4, 0, 50)", 9)
                .refused("order(4, 0, 50)", 9)
                .due("orders(-1)", 40)
                .due("cancel(3, 9)", 50)
                .due("order(4, 0, 50)", 40)
                .refused("order(3, 9, 50)", 9);
    }

    private static void replacingWhenForty() {
        withOrders("40 orders are kept and the bidder has none for this lot", 40)
                .due("wouldRefuse(true, 2, 7, 51)", 0)
                .due("order(2, 7, 51)", 40)
                .due("maximum(2, 7)", 51)
                .refused("order(4, 7, 51)", 9)
                // The orders of a lot that is closed or withdrawn are kept no longer.
                .does("open(0)").does("close(0)")
                .due("order(4, 7, 51)", 31)
                .due("withdraw(1)", 10)
                .due("order(4, 6, 51)", 22);
    }

    private static void limitsOfOpenLots() {
        new Run("the greater one of the step of the maximum of the order, if there is one for this lot, "
                + "and the greatest live bid")
                .times(2, "addLot(0, 1, 0)")
                .does("order(1, 3, 700)").does("open(0)").does("open(1)")
                .does("bid(0, 3, 300)")
                .due("limit(0, 0, 1)", 300).due("limit(1, 0, 1)", 700)
                // A maximum one below the next step leads no further than the bid.
                .does("order(0, 3, 319)").due("limit(0, 0, 1)", 300).due("limit(0, 0, 2)", 2)
                .does("order(0, 3, 320)").due("limit(0, 0, 1)", 320).due("limit(0, 0, 2)", 4)
                .does("order(0, 4, 340)").does("bid(0, 3, 360)")
                .due("limit(0, 0, 1)", 360).due("limit(0, 0, 2)", 6);
    }

    private static void bidsOfTheLatestOpening() {
        new Run("made since the lot was opened the last time")
                .does("addLot(0, 1, 1000)").does("open(0)")
                .does("bid(0, 2, 800)").due("standing(0, 6)", 1)
                .does("close(0)").does("offer(0, 999)").does("open(0)")
                .due("standing(0, 6)", 0).throwsElement("limit(0, 0, 0)")
                .due("bid(0, 2, 20)", 30)
                .due("limit(0, 0, 1)", 20).due("limit(0, 0, 2)", 2);
        // The bids of the first and of the last bidder are gone with the closing as those of the others.
        new Run("made since the lot was opened the last time")
                .does("addLot(0, 1, 1000)").does("open(0)")
                .does("bid(0, 0, 800)").does("bid(0, 9, 900)").due("standing(0, 6)", 2)
                .does("close(0)").does("offer(0, 0)").due("open(0)", 0)
                .due("standing(0, 6)", 0).due("standing(0, 1)", -1);
    }

    private static void countingLimits() {
        new Run("it counts if it is greater than 0")
                .does("addLot(0, 1, 0)")
                .does("order(0, 5, 9)")
                .due("open(0)", 0)
                .due("standing(0, 6)", 0).due("standing(0, 1)", -1)
                .throwsElement("limit(0, 0, 0)")
                .does("order(0, 5, 10)")
                .due("standing(0, 6)", 1).due("standing(0, 1)", 5).due("standing(0, 0)", 10)
                .due("limit(0, 0, 1)", 10);
        new Run("it counts if it is greater than 0")
                .does("setRows(0, 0, 1)").does("addLot(0, 1, 0)").does("order(0, 5, 1)")
                .due("open(0)", 1)
                .due("standing(0, 6)", 1).due("limit(0, 0, 1)", 1)
                .does("order(0, 4, 1)").does("order(0, 6, 1)")
                .due("standing(0, 6)", 3).due("limit(0, 0, 0)", 5).due("limit(0, 1, 0)", 4).due("limit(0, 2, 0)", 6)
                .throwsElement("limit(0, 3, 0)");
    }

    private static void numbers() {
        new Run("all orders and live bids of the sale are numbered from 1 in the order in which they are accepted")
                .times(2, "addLot(0, 1, 0)")
                .refused("bid(0, 1, 10)", 1)
                .refused("order(0, 1, 20001)", 8)
                .throwsArgument("order(0, 1, 0)")
                .does("order(0, 1, 100)")
                .does("open(0)").does("open(1)")
                .due("limit(0, 0, 2)", 1)
                .refused("bid(0, 1, 120)", 2)
                .does("bid(1, 2, 30)").due("limit(1, 0, 2)", 2)
                .does("order(1, 1, 80)").due("limit(1, 0, 2)", 3);
    }

    private static void cancelledNumbers() {
        new Run("all orders and live bids of the sale are numbered from 1 in the order in which they are accepted")
                .does("addLot(0, 1, 0)")
                .does("order(0, 1, 100)").does("cancel(0, 1)").does("order(0, 1, 100)")
                .does("open(0)").due("limit(0, 0, 2)", 2)
                .does("undo()").does("undo()").does("order(0, 2, 90)")
                .does("open(0)").due("limit(0, 0, 2)", 2);
    }

    private static void timesOfBoth() {
        new Run("if both lead to the same limit, the lesser number counts")
                .does("addLot(0, 1, 0)").does("open(0)")
                .does("bid(0, 3, 300)").does("order(0, 4, 300)").does("order(0, 3, 300)")
                .due("limit(0, 0, 0)", 3).due("limit(0, 0, 2)", 1)
                .due("limit(0, 1, 0)", 4).due("limit(0, 1, 2)", 2)
                .does("order(0, 3, 319)")
                .due("limit(0, 0, 0)", 3).due("limit(0, 0, 2)", 1);
    }

    private static void limitOfTheHouse() {
        limitOfTheHouse(0, 0);
        limitOfTheHouse(1, 0);
        limitOfTheHouse(10, 0);
        limitOfTheHouse(11, 10);
        limitOfTheHouse(20, 10);
        limitOfTheHouse(21, 20);
        limitOfTheHouse(100, 90);
        limitOfTheHouse(101, 100);
        limitOfTheHouse(120, 100);
        limitOfTheHouse(89900, 89800);
        limitOfTheHouse(90000, 89900);
    }

    private static void limitOfTheHouse(int reserve, int limit) {
        new Run("The limit of the house is the greatest step that is less than the reserve, or 0 if there is none.")
                .does("addLot(0, 1, " + reserve + ")")
                .due("open(0)", limit == 0 ? 0 : 10)
                .due("standing(0, 1)", limit == 0 ? -1 : 10)
                .due("standing(0, 4)", limit)
                .due("standing(0, 5)", 0)
                .due("priceIf(0, 7, 10)", limit > 10 ? 20 : 10);
    }

    // Promises 10 to 14.

    private static void orderPlaces() {
        new Run("IndexOutOfBoundsException if there is no such lot or bidder")
                .throwsIndex("order(0, 0, 50)")
                .does("addLot(0, 1, 0)").does("addLot(0, 1, 0)")
                .throwsIndex("order(-1, 0, 50)").due("order(0, 0, 50)", 1)
                .due("order(1, 9, 50)", 2).throwsIndex("order(2, 0, 50)")
                .throwsIndex("order(0, -1, 0)").throwsIndex("order(0, 10, 90001)")
                .does("withdraw(0)")
                .throwsArgument("order(0, 0, 0)").throwsArgument("order(0, 0, 90001)");
    }

    private static void lotsThatTakeNoOrder() {
        new Run("6, the lot is neither waiting nor open")
                .times(6, "addLot(0, 2, 50)")
                .due("order(0, 1, 60)", 1)
                .does("open(0)").due("order(0, 2, 60)", 2)
                .does("close(0)").due("lot(0, 0)", 2).refused("order(0, 3, 60)", 6)
                .does("open(1)").does("close(1)").due("lot(1, 0)", 3).refused("order(1, 3, 60)", 6)
                .does("withdraw(2)").refused("order(2, 3, 60)", 6)
                .does("split(3, 2)").refused("order(3, 3, 60)", 6)
                .does("group(4, 5)").refused("order(4, 3, 60)", 6).refused("order(5, 3, 60)", 6)
                .does("offer(1, 0)").due("order(1, 3, 60)", 1);
    }

    private static void maximumsThatAreNotLess() {
        new Run("7, the bidder has an order for this lot with a maximum that is not less")
                .times(2, "addLot(0, 1, 0)")
                .does("order(0, 1, 100)")
                .refused("order(0, 1, 99)", 7)
                .refused("order(0, 1, 100)", 7)
                .due("order(0, 2, 100)", 2).due("order(1, 1, 100)", 3)
                .due("order(0, 1, 101)", 3)
                .refused("order(0, 1, 101)", 7)
                .does("open(0)")
                .refused("order(0, 1, 101)", 7).due("order(0, 1, 102)", 3);
    }

    private static void maximumsAndCredit() {
        new Run("8, the maximum is greater than the credit")
                .times(2, "addLot(0, 1, 0)").does("setCredit(1, 100)").does("setCredit(2, 0)")
                .refused("order(0, 1, 101)", 8)
                .due("order(0, 1, 100)", 1)
                .refused("order(0, 2, 1)", 8)
                // The exposure does not count for orders.
                .does("open(0)").due("bidder(1, 5)", 100)
                .due("order(1, 1, 100)", 2);
    }

    private static void firstReasonOfAnOrder() {
        withOrders("An order is refused for the first of these", 40)
                .does("setCredit(0, 50)")
                .refused("order(0, 0, 50)", 7)
                .refused("order(0, 0, 51)", 8)
                .refused("order(4, 0, 51)", 8)
                .refused("order(4, 0, 50)", 9)
                .does("setCredit(0, 40)")
                .refused("order(0, 0, 45)", 7)
                .refused("order(4, 0, 41)", 8)
                .does("withdraw(4)")
                .refused("order(4, 0, 90000)", 6);
    }

    private static void replacing() {
        new Run("An order that is accepted replaces an earlier one of the bidder for this lot.")
                .does("addLot(0, 1, 0)")
                .does("order(0, 1, 300)").does("order(0, 2, 310)")
                .does("open(0)").due("standing(0, 1)", 1)
                // The step of 315 is 300 too, but the order has a number of its own.
                .does("order(0, 1, 315)").due("maximum(0, 1)", 315)
                .due("standing(0, 1)", 2)
                .due("limit(0, 1, 0)", 1).due("limit(0, 1, 2)", 3);
    }

    private static void cancel() {
        new Run("Cancels an order for a waiting lot.")
                .does("addLot(0, 1, 50)").does("addLot(0, 1, 0)")
                .does("order(0, 1, 40)").does("order(1, 1, 90)")
                .throwsIndex("cancel(-1, 1)").throwsIndex("cancel(2, 1)")
                .throwsIndex("cancel(0, -1)").throwsIndex("cancel(0, 10)")
                .throwsElement("cancel(0, 0)").throwsElement("cancel(0, 2)")
                .does("open(0)")
                .throwsElement("cancel(0, 2)").throwsState("cancel(0, 1)")
                .does("close(0)")
                .throwsElement("cancel(0, 1)")
                .does("offer(0, 0)").throwsElement("cancel(0, 1)")
                .due("cancel(1, 1)", 90).throwsElement("cancel(1, 1)")
                .due("orders(-1)", 0);
    }

    private static void maximumExceptions() {
        new Run("Returns the maximum of an order.")
                .throwsIndex("maximum(0, 0)")
                .does("addLot(0, 1, 0)").throwsElement("maximum(0, 0)")
                .does("order(0, 0, 1)").does("order(0, 9, 20000)")
                .due("maximum(0, 0)", 1).throwsElement("maximum(0, 1)")
                .throwsElement("maximum(0, 8)").due("maximum(0, 9)", 20000)
                .throwsIndex("maximum(-1, 0)").throwsIndex("maximum(1, 0)")
                .throwsIndex("maximum(0, -1)").throwsIndex("maximum(0, 10)")
                .does("open(0)").due("maximum(0, 9)", 20000)
                .does("close(0)").throwsElement("maximum(0, 9)");
    }

    private static void orders() {
        new Run("the lot, or -1 for all")
                .due("orders(-1)", 0).throwsIndex("orders(0)").throwsIndex("orders(-2)")
                .does("addLot(0, 1, 0)").does("addLot(0, 1, 0)")
                .each(0, 9, "order(1, #, 50)")
                .due("orders(0)", 0).due("orders(1)", 10).due("orders(-1)", 10)
                .throwsIndex("orders(2)").throwsIndex("orders(-2)");
    }

    private static void open() {
        new Run("Opens a waiting lot.")
                .throwsIndex("open(0)")
                .times(6, "addLot(0, 2, 50)")
                .throwsIndex("open(-1)").throwsIndex("open(6)")
                .due("open(0)", 10).throwsState("open(0)")
                .does("bid(0, 1, 50)").does("close(0)").throwsState("open(0)")
                .does("open(1)").does("close(1)").throwsState("open(1)")
                .does("withdraw(2)").throwsState("open(2)")
                .does("split(3, 2)").throwsState("open(3)")
                .does("group(4, 5)").throwsState("open(4)").throwsState("open(5)")
                .does("offer(1, 0)").due("open(1)", 0)
                .due("open(8)", 10);
    }

    // Promise 19.

    private static void ranks() {
        new Run("the rank among the bidders whose limits count, from 0")
                .times(2, "addLot(0, 1, 0)")
                .each(0, 9, "order(0, #, 20)")
                .does("open(0)")
                .throwsElement("limit(0, -1, 0)")
                .due("limit(0, 0, 0)", 0).due("limit(0, 9, 0)", 9).due("limit(0, 9, 2)", 10)
                .throwsElement("limit(0, 10, 0)")
                .throwsIndex("limit(-1, 0, 0)").throwsIndex("limit(2, 10, 3)")
                .throwsArgument("limit(0, 10, -1)").throwsArgument("limit(0, 10, 3)")
                .throwsArgument("limit(1, 10, 3)")
                .throwsState("limit(1, 10, 2)").throwsState("limit(1, 0, 0)")
                .does("close(0)").throwsState("limit(0, 0, 0)");
    }

    private static void orderOfRanks() {
        new Run("greater limits first, equal ones by their times")
                .does("addLot(0, 1, 0)")
                .does("order(0, 9, 40)").does("order(0, 4, 30)").does("order(0, 2, 39)").does("order(0, 0, 29)")
                .does("open(0)")
                .due("limit(0, 0, 0)", 9).due("limit(0, 0, 1)", 40).due("limit(0, 0, 2)", 1)
                .due("limit(0, 1, 0)", 4).due("limit(0, 1, 1)", 30).due("limit(0, 1, 2)", 2)
                .due("limit(0, 2, 0)", 2).due("limit(0, 2, 1)", 30).due("limit(0, 2, 2)", 3)
                .due("limit(0, 3, 0)", 0).due("limit(0, 3, 1)", 20).due("limit(0, 3, 2)", 4)
                .throwsElement("limit(0, 4, 0)");
    }

    public static void main(String[] args) {
        maximums();
        oneOrderForALot();
        fortyOrders();
        replacingWhenForty();
        limitsOfOpenLots();
        bidsOfTheLatestOpening();
        countingLimits();
        numbers();
        cancelledNumbers();
        timesOfBoth();
        limitOfTheHouse();
        orderPlaces();
        lotsThatTakeNoOrder();
        maximumsThatAreNotLess();
        maximumsAndCredit();
        firstReasonOfAnOrder();
        replacing();
        cancel();
        maximumExceptions();
        orders();
        open();
        ranks();
        orderOfRanks();
        Expect.end();
    }
}

/** 'Promise 1' to 'Promise 41', from the first word to the last: a run of calls for each sentence. */
public final class PromisesTest {
    private static final Page PAGE = new Page("Promise 1: A new object", "Not promised");

    private PromisesTest() {
    }

    /** For calls of which several conditions are fulfilled. */
    private static Run listedFirst() {
        return new Run("If several conditions of a method are fulfilled, the one that is listed first determines the "
                + "exception.");
    }

    /** 0 waiting, 1 open, 2 sold to bidder 0, 3 bought in, 4 withdrawn, 5 split, 6 and 7 grouped, 8 waiting. */
    private static Run withAllStates(Run run) {
        return run.times(6, "addLot(0, 2, 100)").does("open(1)").does("open(2)").does("bid(2, 0, 100)")
                .does("close(2)").does("open(3)").does("close(3)").does("withdraw(4)").does("split(5, 2)")
                .does("group(6, 7)").due("lots(0)", 2).due("lots(1)", 1).due("lots(2)", 1).due("lots(3)", 1)
                .due("lots(4)", 1).due("lots(5)", 1).due("lots(6)", 2);
    }

    private static Run withTwentyLots(Run run) {
        return run.times(20, "addLot(0, 2, 100)");
    }

    // Lots and steps.

    private static void newObject() {
        PAGE.says("Creates a sale without lots, in which every bidder has a credit of 20000.")
                .due("lots(-1)", 0).throwsIndex("lot(0, 0)")
                .due("bidder(0, 0)", 20000).due("bidder(1, 0)", 20000).due("bidder(2, 0)", 20000)
                .due("bidder(3, 0)", 20000).due("bidder(4, 0)", 20000).due("bidder(5, 0)", 20000)
                .due("bidder(6, 0)", 20000).due("bidder(7, 0)", 20000).due("bidder(8, 0)", 20000)
                .due("bidder(9, 0)", 20000)
                .due("orders(-1)", 0).due("events(-1)", 0).due("audit()", 0).due("house(0)", 0)
                .due("faultPosition()", -1).throwsElement("refusal()").throwsArithmetic("soldShare()")
                .throwsState("undo()").throwsState("restore()");
    }

    private static void addLot() {
        PAGE.tells("Lots and steps.");
        PAGE.says("Adds a waiting lot.").does("addLot(0, 1, 0)").due("lot(0, 0)", 0).due("lots(0)", 1);
        PAGE.says("- seller: the seller - quantity: the quantity - reserve: the reserve")
                .does("addLot(5, 3, 70)").due("lot(0, 1)", 5).due("lot(0, 2)", 3).due("lot(0, 3)", 70);
        PAGE.says("Returns the number of the lot.").due("addLot(0, 1, 0)", 0).due("addLot(0, 1, 0)", 1);
        PAGE.says("Throws IllegalArgumentException if an argument is out of range")
                .throwsArgument("addLot(-1, 1, 0)").throwsArgument("addLot(6, 1, 0)")
                .throwsArgument("addLot(0, 0, 0)").throwsArgument("addLot(0, 21, 0)")
                .throwsArgument("addLot(0, 1, -1)").throwsArgument("addLot(0, 1, 90001)");
        withTwentyLots(PAGE.says("Throws IllegalStateException if 20 lots were made"))
                .throwsState("addLot(0, 1, 0)").does("withdraw(0)").throwsState("addLot(0, 1, 0)");
        withTwentyLots(listedFirst()).throwsArgument("addLot(6, 1, 0)").throwsArgument("addLot(0, 0, 0)")
                .throwsArgument("addLot(0, 1, -1)");
    }

    private static void lot() {
        PAGE.tells("Returns a number of a lot.");
        PAGE.tells("- lot: the lot");
        PAGE.says("- what: 0 for its state, 1 for its seller, 2 for its quantity, 3 for its reserve, 4 for how often it "
                + "was opened Returns the number.")
                .does("addLot(0, 1, 0)").does("addLot(2, 7, 300)").due("lot(1, 0)", 0).due("lot(1, 1)", 2)
                .due("lot(1, 2)", 7).due("lot(1, 3)", 300).due("lot(1, 4)", 0)
                .does("open(1)").due("lot(1, 4)", 1).does("close(1)").due("lot(1, 4)", 1)
                .does("offer(1, 200)").due("lot(1, 3)", 200).due("lot(1, 4)", 1)
                .does("open(1)").due("lot(1, 4)", 2).due("lot(0, 4)", 0);
        PAGE.says("Throws IndexOutOfBoundsException if there is no such lot")
                .throwsIndex("lot(0, 0)").does("addLot(0, 1, 0)").throwsIndex("lot(-1, 0)").throwsIndex("lot(1, 0)");
        PAGE.says("Throws IllegalArgumentException if what is not from 0 to 4")
                .does("addLot(0, 1, 0)").throwsArgument("lot(0, -1)").throwsArgument("lot(0, 5)");
        listedFirst().throwsIndex("lot(0, 5)");
    }

    private static void lots() {
        withAllStates(PAGE.says("Returns the number of lots in a state."));
        withAllStates(PAGE.says("- state: the state, or -1 for all Returns the number.")).due("lots(-1)", 9);
        PAGE.says("Throws IllegalArgumentException if state is not from -1 to 6")
                .throwsArgument("lots(-2)").due("lots(6)", 0).throwsArgument("lots(7)");
    }

    private static void setRows() {
        PAGE.says("Replaces the table of increments by one with a number of its first rows, and then adds a row.")
                .does("setRows(2, 300, 25)")
                .due("row(0, 1)", 10).due("row(1, 0)", 100).due("row(1, 1)", 20)
                .due("row(2, 0)", 300).due("row(2, 1)", 25).throwsIndex("row(3, 0)")
                .due("nextStep(300)", 325).due("nextStep(280)", 300).due("nextStep(2000)", 2025);
        PAGE.says("- rows: the number of rows that stay - bound: the bound of the new row - increment: its increment "
                + "Returns the number of rows.")
                .due("setRows(4, 2001, 9)", 5).due("setRows(5, 2002, 8)", 6).due("setRows(0, 0, 7)", 1)
                .due("row(0, 0)", 0).due("row(0, 1)", 7).due("setRows(1, 5, 6)", 2);
        PAGE.says("Throws IndexOutOfBoundsException if the number of rows that stay is not from 0 to 5, or greater than "
                + "the number of rows")
                .throwsIndex("setRows(-1, 0, 10)").throwsIndex("setRows(5, 80000, 10)")
                .does("setRows(4, 3000, 10)").does("setRows(5, 4000, 10)").throwsIndex("setRows(6, 80000, 10)")
                .does("setRows(0, 0, 10)").throwsIndex("setRows(2, 80000, 10)");
        PAGE.says("Throws IllegalArgumentException if the bound or the increment is out of range, the bound is not "
                + "greater than that of the row before, or is not 0 for the first row")
                .throwsArgument("setRows(1, -1, 10)").throwsArgument("setRows(1, 90001, 10)")
                .throwsArgument("setRows(0, 0, 0)").throwsArgument("setRows(0, 0, 5001)")
                .throwsArgument("setRows(2, 100, 10)").throwsArgument("setRows(2, 99, 10)")
                .throwsArgument("setRows(0, 1, 10)");
        PAGE.says("Throws IllegalStateException if a lot is open")
                .does("addLot(0, 1, 0)").does("addLot(0, 1, 0)").does("open(1)").throwsState("setRows(0, 0, 10)")
                .does("close(1)").due("setRows(0, 0, 10)", 1);
        listedFirst().does("addLot(0, 1, 0)").does("open(0)")
                .throwsIndex("setRows(-1, -1, 0)").throwsIndex("setRows(5, 90001, 10)")
                .throwsIndex("setRows(5, 80000, 0)").throwsIndex("setRows(5, 80000, 10)")
                .throwsArgument("setRows(1, 90001, 10)").throwsArgument("setRows(1, 5, 0)")
                .throwsArgument("setRows(2, 100, 10)").throwsArgument("setRows(0, 1, 10)");
    }

    private static void row() {
        PAGE.says("Returns a part of a row of the table.").due("row(3, 0)", 2000).due("row(3, 1)", 100);
        PAGE.says("- row: the row, from 0 - what: 0 for its bound, 1 for its increment Returns the part.")
                .due("row(0, 0)", 0).due("row(0, 1)", 10).due("row(1, 0)", 100).due("row(1, 1)", 20);
        PAGE.says("Throws IndexOutOfBoundsException if there is no such row")
                .throwsIndex("row(-1, 0)").throwsIndex("row(4, 0)").does("setRows(0, 0, 5)").throwsIndex("row(1, 0)");
        PAGE.says("Throws IllegalArgumentException if what is neither 0 nor 1")
                .throwsArgument("row(0, -1)").throwsArgument("row(0, 2)");
        listedFirst().throwsIndex("row(4, 2)");
    }

    private static void step() {
        PAGE.says("Returns the step of an amount.").due("step(505)", 500).due("step(550)", 550);
        PAGE.says("- amount: the amount, 0 to 99999").due("step(0)", 0).due("step(99999)", 99900);
        PAGE.says("Returns the step, or 0.").due("step(9)", 0).due("step(10)", 10);
        PAGE.says("Throws IllegalArgumentException if the amount is out of range")
                .throwsArgument("step(-1)").throwsArgument("step(100000)");
    }

    private static void nextStep() {
        PAGE.says("Returns the least step that is greater than an amount.")
                .due("nextStep(505)", 550).due("nextStep(550)", 600).due("nextStep(549)", 550);
        PAGE.says("- amount: the amount, 0 to 99999").due("nextStep(0)", 10).due("nextStep(99999)", 100000);
        PAGE.says("Returns the step.").due("nextStep(10)", 20);
        PAGE.says("Throws IllegalArgumentException if the amount is out of range")
                .throwsArgument("nextStep(-1)").throwsArgument("nextStep(100000)");
    }

    private static void setCredit() {
        PAGE.says("Sets the credit of a bidder.").does("setCredit(4, 1234)").due("bidder(4, 0)", 1234)
                .due("bidder(3, 0)", 20000).due("bidder(5, 0)", 20000);
        PAGE.says("- bidder: the bidder, 0 to 9 - credit: the credit Returns the previous credit.")
                .due("setCredit(0, 0)", 20000).due("setCredit(0, 999999)", 0).due("setCredit(0, 5)", 999999)
                .due("setCredit(9, 5)", 20000);
        PAGE.says("Throws IndexOutOfBoundsException if there is no such bidder")
                .throwsIndex("setCredit(-1, 0)").throwsIndex("setCredit(10, 0)");
        PAGE.says("Throws IllegalArgumentException if the credit is out of range")
                .throwsArgument("setCredit(0, -1)").throwsArgument("setCredit(0, 1000000)");
        listedFirst().throwsIndex("setCredit(10, -1)");
    }

    // Orders and bids.

    private static void order() {
        PAGE.tells("Orders and bids.");
        PAGE.says("Gives an order.").does("addLot(0, 1, 0)").does("order(0, 3, 55)").due("maximum(0, 3)", 55)
                .due("events(0)", 1);
        PAGE.says("- lot: the lot - bidder: the bidder, 0 to 9 - maximum: the maximum "
                + "Returns the number of orders that are kept.")
                .times(2, "addLot(0, 1, 0)").due("order(1, 9, 55)", 1).due("order(0, 0, 55)", 2)
                .due("order(1, 9, 56)", 2).does("open(0)").due("order(0, 1, 5)", 3);
        PAGE.says("Throws IndexOutOfBoundsException if there is no such lot or bidder")
                .does("addLot(0, 1, 0)").throwsIndex("order(-1, 0, 10)").throwsIndex("order(1, 0, 10)")
                .throwsIndex("order(0, -1, 10)").throwsIndex("order(0, 10, 10)");
        PAGE.says("Throws IllegalArgumentException if the maximum is out of range")
                .does("addLot(0, 1, 0)").does("setCredit(0, 999999)")
                .throwsArgument("order(0, 0, 0)").throwsArgument("order(0, 0, 90001)");
        PAGE.says("Throws UnsupportedOperationException if the order is refused; its reason is kept for refusal")
                .does("addLot(0, 1, 0)").refused("order(0, 0, 20001)", 8).does("order(0, 0, 20000)")
                .refused("order(0, 0, 20000)", 7).does("open(0)").does("close(0)").refused("order(0, 1, 10)", 6);
        listedFirst().does("addLot(0, 1, 0)").does("withdraw(0)")
                .throwsIndex("order(1, 0, 0)").throwsIndex("order(0, 10, 0)").throwsIndex("order(0, 10, 10)")
                .throwsArgument("order(0, 0, 0)").throwsElement("refusal()");
    }

    private static void cancel() {
        PAGE.says("Cancels an order for a waiting lot.")
                .does("addLot(0, 1, 0)").does("order(0, 3, 55)").does("order(0, 4, 66)").does("cancel(0, 3)")
                .throwsElement("maximum(0, 3)").due("maximum(0, 4)", 66).due("orders(-1)", 1).due("events(9)", 1);
        PAGE.says("- lot: the lot - bidder: the bidder, 0 to 9 Returns its maximum.")
                .times(2, "addLot(0, 1, 0)").does("order(0, 0, 55)").does("order(1, 0, 66)").does("order(0, 9, 77)")
                .due("cancel(0, 9)", 77).due("cancel(1, 0)", 66).due("cancel(0, 0)", 55);
        PAGE.says("Throws IndexOutOfBoundsException if there is no such lot or bidder")
                .does("addLot(0, 1, 0)").throwsIndex("cancel(-1, 0)").throwsIndex("cancel(1, 0)")
                .throwsIndex("cancel(0, -1)").throwsIndex("cancel(0, 10)");
        PAGE.says("Throws NoSuchElementException if there is no such order")
                .times(2, "addLot(0, 1, 0)").does("order(0, 0, 55)").throwsElement("cancel(0, 1)")
                .throwsElement("cancel(1, 0)").does("cancel(0, 0)").throwsElement("cancel(0, 0)");
        PAGE.says("Throws IllegalStateException if the lot is not waiting")
                .does("addLot(0, 1, 0)").does("order(0, 0, 55)").does("open(0)").throwsState("cancel(0, 0)")
                .due("maximum(0, 0)", 55);
        listedFirst().does("addLot(0, 1, 0)").does("open(0)").throwsElement("cancel(0, 0)")
                .does("close(0)").throwsElement("cancel(0, 0)").throwsIndex("cancel(0, 10)");
    }

    private static void maximum() {
        PAGE.says("Returns the maximum of an order.").does("addLot(0, 1, 0)").does("order(0, 0, 55)")
                .due("maximum(0, 0)", 55).does("open(0)").due("maximum(0, 0)", 55);
        PAGE.says("- lot: the lot - bidder: the bidder, 0 to 9 Returns the maximum.")
                .times(2, "addLot(0, 1, 0)").does("order(0, 0, 55)").does("order(0, 9, 66)").does("order(1, 0, 77)")
                .due("maximum(0, 0)", 55).due("maximum(0, 9)", 66).due("maximum(1, 0)", 77);
        PAGE.says("Throws IndexOutOfBoundsException if there is no such lot or bidder")
                .does("addLot(0, 1, 0)").throwsIndex("maximum(-1, 0)").throwsIndex("maximum(1, 0)")
                .throwsIndex("maximum(0, -1)").throwsIndex("maximum(0, 10)");
        PAGE.says("Throws NoSuchElementException if there is no such order")
                .times(2, "addLot(0, 1, 0)").does("order(0, 0, 55)").throwsElement("maximum(0, 1)")
                .throwsElement("maximum(1, 0)").does("withdraw(0)").throwsElement("maximum(0, 0)");
    }

    private static void orders() {
        PAGE.says("Returns the number of orders.").does("addLot(0, 1, 0)").due("orders(0)", 0)
                .does("order(0, 0, 55)").due("orders(0)", 1);
        PAGE.says("- lot: the lot, or -1 for all Returns the number.")
                .times(3, "addLot(0, 1, 0)").does("order(0, 0, 55)").does("order(1, 0, 55)").does("order(1, 1, 55)")
                .due("orders(0)", 1).due("orders(1)", 2).due("orders(2)", 0).due("orders(-1)", 3);
        PAGE.says("Throws IndexOutOfBoundsException if lot is not -1 and there is no such lot")
                .due("orders(-1)", 0).throwsIndex("orders(-2)").throwsIndex("orders(0)")
                .does("addLot(0, 1, 0)").throwsIndex("orders(1)");
    }

    private static void open() {
        withAllStates(PAGE.says("Opens a waiting lot.")).does("open(0)").due("lot(0, 0)", 1).due("lots(1)", 2)
                .does("open(8)").due("lot(8, 0)", 1);
        PAGE.says("- lot: the lot Returns its price then.")
                .times(3, "addLot(0, 1, 100)").does("addLot(0, 1, 0)").does("order(1, 0, 60)").does("order(2, 0, 300)")
                .does("order(2, 1, 200)")
                .due("open(0)", 10).due("open(1)", 70).due("open(2)", 220).due("open(3)", 0);
        PAGE.says("Throws IndexOutOfBoundsException if there is no such lot")
                .throwsIndex("open(0)").does("addLot(0, 1, 0)").throwsIndex("open(-1)").throwsIndex("open(1)");
        withAllStates(PAGE.says("Throws IllegalStateException if it is not waiting"))
                .throwsState("open(1)").throwsState("open(2)").throwsState("open(3)").throwsState("open(4)")
                .throwsState("open(5)").throwsState("open(6)").throwsState("open(7)");
    }

    private static void bid() {
        PAGE.says("Makes a live bid.").does("addLot(0, 1, 0)").does("open(0)").does("bid(0, 3, 50)")
                .due("limit(0, 0, 0)", 3).due("limit(0, 0, 1)", 50).due("events(2)", 1).due("orders(-1)", 0);
        PAGE.says("- lot: the lot - bidder: the bidder, 0 to 9 - amount: the amount, 1 to 99999 "
                + "Returns the price then.")
                .does("setRows(0, 0, 1)").times(2, "addLot(0, 1, 0)").does("setCredit(0, 999999)").does("open(1)")
                .due("bid(1, 9, 1)", 1).due("bid(1, 0, 99999)", 2).due("bid(1, 9, 500)", 501);
        PAGE.says("Throws IndexOutOfBoundsException if there is no such lot or bidder")
                .does("addLot(0, 1, 0)").does("open(0)").throwsIndex("bid(-1, 0, 10)").throwsIndex("bid(1, 0, 10)")
                .throwsIndex("bid(0, -1, 10)").throwsIndex("bid(0, 10, 10)");
        PAGE.says("Throws IllegalArgumentException if the amount is out of range")
                .does("addLot(0, 1, 0)").does("open(0)").throwsArgument("bid(0, 0, 0)")
                .throwsArgument("bid(0, 0, 100000)");
        PAGE.says("Throws UnsupportedOperationException if the bid is refused; its reason is kept for refusal")
                .does("addLot(0, 1, 0)").refused("bid(0, 0, 10)", 1).does("open(0)").refused("bid(0, 0, 9)", 3)
                .refused("bid(0, 0, 11)", 4).refused("bid(0, 0, 20100)", 5).does("bid(0, 0, 20000)")
                .refused("bid(0, 0, 20)", 2);
        listedFirst().does("addLot(0, 1, 0)")
                .throwsIndex("bid(1, 0, 0)").throwsIndex("bid(0, 10, 0)").throwsIndex("bid(0, 10, 10)")
                .throwsArgument("bid(0, 0, 0)").throwsArgument("bid(0, 0, 100000)").throwsElement("refusal()");
    }

    private static void refusal() {
        PAGE.says("Returns the reason for which the latest order or live bid that was refused was refused. Returns the "
                + "number of the reason.")
                .does("addLot(0, 1, 0)").refused("order(0, 0, 20001)", 8).refused("bid(0, 0, 10)", 1)
                .does("open(0)").does("bid(0, 0, 10)").due("refusal()", 1).due("refusal()", 1)
                .refused("bid(0, 0, 20)", 2);
        PAGE.says("Throws NoSuchElementException if none was refused")
                .throwsElement("refusal()").does("addLot(0, 1, 0)").does("order(0, 0, 50)").does("open(0)")
                .does("bid(0, 1, 20)").throwsArgument("bid(0, 0, 0)").due("wouldRefuse(true, 0, 0, 50)", 7)
                .throwsElement("refusal()");
    }

    private static void wouldRefuse() {
        PAGE.says("Returns for which reason a live bid or an order would be refused; nothing is kept for refusal.")
                .does("addLot(0, 1, 0)").due("wouldRefuse(false, 0, 0, 10)", 1).due("wouldRefuse(true, 0, 0, 20001)", 8)
                .due("wouldRefuse(true, 0, 0, 20000)", 0).throwsElement("refusal()")
                .due("orders(-1)", 0).does("open(0)").due("wouldRefuse(false, 0, 0, 10)", 0).due("standing(0, 6)", 0)
                .due("wouldRefuse(false, 0, 0, 9)", 3).due("wouldRefuse(false, 0, 0, 15)", 4)
                .due("wouldRefuse(false, 0, 0, 20100)", 5)
                .does("order(0, 0, 60)").due("wouldRefuse(false, 0, 0, 20)", 2).due("wouldRefuse(true, 0, 0, 60)", 7)
                .does("close(0)").due("wouldRefuse(true, 0, 0, 60)", 6).throwsElement("refusal()");
        PAGE.says("- isOrder: whether it is an order - lot: the lot - bidder: the bidder, 0 to 9 - amount: the amount or "
                + "maximum, 1 to 90000 Returns the number of the reason, or 0.")
                .does("addLot(0, 1, 0)").does("setCredit(9, 90000)").due("wouldRefuse(true, 0, 9, 90000)", 0)
                .due("wouldRefuse(true, 0, 0, 1)", 0).due("wouldRefuse(false, 0, 0, 1)", 1)
                .does("open(0)").due("wouldRefuse(false, 0, 9, 90000)", 0).due("wouldRefuse(false, 0, 9, 1)", 3)
                .due("wouldRefuse(true, 0, 9, 1)", 0);
        PAGE.says("Throws IndexOutOfBoundsException if there is no such lot or bidder")
                .does("addLot(0, 1, 0)").throwsIndex("wouldRefuse(true, -1, 0, 10)")
                .throwsIndex("wouldRefuse(false, 1, 0, 10)").throwsIndex("wouldRefuse(true, 0, -1, 10)")
                .throwsIndex("wouldRefuse(false, 0, 10, 10)");
        PAGE.says("Throws IllegalArgumentException if the amount is out of range")
                .does("addLot(0, 1, 0)").throwsArgument("wouldRefuse(true, 0, 0, 0)")
                .throwsArgument("wouldRefuse(false, 0, 0, 0)").throwsArgument("wouldRefuse(true, 0, 0, 90001)")
                .throwsArgument("wouldRefuse(false, 0, 0, 90001)");
        listedFirst().does("addLot(0, 1, 0)").throwsIndex("wouldRefuse(true, 1, 0, 0)")
                .throwsIndex("wouldRefuse(false, 0, 10, 90001)");
    }

    private static void standing() {
        PAGE.tells("Returns a number of the standing of an open lot.");
        PAGE.says("- lot: the lot - what: 0 for the price, 1 for the leader, 10 for the house and -1 for nobody, 2 for "
                + "the ask, 3 for 1 if the reserve is met and 0 otherwise, 4 for the limit of the leader, 0 for nobody, "
                + "5 for the second limit, 6 for the number of bidders whose limits count Returns the number.")
                .does("addLot(0, 1, 0)").does("addLot(0, 1, 100)").does("open(0)").does("open(1)")
                .due("standing(0, 0)", 0).due("standing(0, 1)", -1).due("standing(0, 2)", 10).due("standing(0, 3)", 0)
                .due("standing(0, 4)", 0).due("standing(0, 5)", 0).due("standing(0, 6)", 0)
                .due("standing(1, 0)", 10).due("standing(1, 1)", 10).due("standing(1, 2)", 20).due("standing(1, 3)", 0)
                .due("standing(1, 4)", 90).due("standing(1, 5)", 0).due("standing(1, 6)", 0)
                .does("bid(1, 6, 200)").does("bid(1, 7, 120)").does("order(1, 8, 5)")
                .due("standing(1, 0)", 140).due("standing(1, 1)", 6).due("standing(1, 2)", 160).due("standing(1, 3)", 1)
                .due("standing(1, 4)", 200).due("standing(1, 5)", 120).due("standing(1, 6)", 2);
        PAGE.says("Throws IndexOutOfBoundsException if there is no such lot")
                .throwsIndex("standing(0, 0)").does("addLot(0, 1, 0)").does("open(0)").throwsIndex("standing(-1, 0)")
                .throwsIndex("standing(1, 0)");
        PAGE.says("Throws IllegalArgumentException if what is not from 0 to 6")
                .does("addLot(0, 1, 0)").does("open(0)").throwsArgument("standing(0, -1)")
                .throwsArgument("standing(0, 7)");
        withAllStates(PAGE.says("Throws IllegalStateException if the lot is not open")).due("standing(1, 0)", 10)
                .throwsState("standing(0, 0)").throwsState("standing(2, 0)").throwsState("standing(3, 0)")
                .throwsState("standing(4, 0)").throwsState("standing(5, 0)").throwsState("standing(6, 0)");
        listedFirst().does("addLot(0, 1, 0)").throwsIndex("standing(1, 7)").throwsArgument("standing(0, 7)");
    }

    private static void limit() {
        PAGE.tells("Returns a limit of an open lot.");
        PAGE.says("- lot: the lot - rank: the rank among the bidders whose limits count, from 0: greater limits first, "
                + "equal ones by their times")
                .does("addLot(0, 1, 100)").does("order(0, 3, 60)").does("order(0, 9, 50)").does("order(0, 2, 60)")
                .does("order(0, 5, 70)").does("order(0, 0, 9)").does("open(0)")
                .due("limit(0, 0, 0)", 5).due("limit(0, 1, 0)", 3).due("limit(0, 2, 0)", 2).due("limit(0, 3, 0)", 9)
                .throwsElement("limit(0, 4, 0)");
        PAGE.says("- what: 0 for the bidder, 1 for the limit, 2 for its time Returns the number.")
                .does("addLot(0, 1, 0)").does("order(0, 7, 55)").does("open(0)").does("bid(0, 4, 120)")
                .due("limit(0, 0, 0)", 4).due("limit(0, 0, 1)", 120).due("limit(0, 0, 2)", 2)
                .due("limit(0, 1, 0)", 7).due("limit(0, 1, 1)", 50).due("limit(0, 1, 2)", 1);
        PAGE.says("Throws IndexOutOfBoundsException if there is no such lot")
                .does("addLot(0, 1, 0)").does("open(0)").throwsIndex("limit(-1, 0, 0)").throwsIndex("limit(1, 0, 0)");
        PAGE.says("Throws IllegalArgumentException if what is not from 0 to 2")
                .does("addLot(0, 1, 0)").does("order(0, 7, 55)").does("open(0)")
                .throwsArgument("limit(0, 0, -1)").throwsArgument("limit(0, 0, 3)");
        withAllStates(PAGE.says("Throws IllegalStateException if the lot is not open"))
                .throwsState("limit(0, 0, 0)").throwsState("limit(2, 0, 0)").throwsState("limit(3, 0, 0)")
                .throwsState("limit(4, 0, 0)").throwsState("limit(5, 0, 0)").throwsState("limit(6, 0, 0)");
        PAGE.says("Throws NoSuchElementException if there is no such rank")
                .does("addLot(0, 1, 100)").does("open(0)").throwsElement("limit(0, 0, 0)").does("bid(0, 1, 100)")
                .due("limit(0, 0, 0)", 1).throwsElement("limit(0, 1, 0)").throwsElement("limit(0, -1, 0)")
                .throwsElement("limit(0, 2147483647, 0)");
        listedFirst().does("addLot(0, 1, 0)").does("order(0, 0, 50)").throwsIndex("limit(1, 1, 3)")
                .throwsArgument("limit(0, 1, 3)").throwsState("limit(0, 1, 0)").does("open(0)")
                .throwsArgument("limit(0, 1, 3)").throwsElement("limit(0, 1, 0)");
    }

    private static void priceIf() {
        PAGE.says("Returns what a lot would cost if a bidder raised the own limit on it to a step, as a live bid would, "
                + "whether it would be refused or not.")
                .does("addLot(0, 1, 100)").does("order(0, 0, 200)").does("order(0, 1, 120)").due("open(0)", 140)
                .due("priceIf(0, 2, 160)", 180).due("priceIf(0, 2, 200)", 200).due("priceIf(0, 2, 300)", 220)
                .due("priceIf(0, 2, 50)", 140).due("priceIf(0, 1, 180)", 200).due("priceIf(0, 0, 500)", 140)
                .does("setCredit(2, 0)").due("priceIf(0, 2, 99900)", 220)
                .due("standing(0, 0)", 140).due("standing(0, 6)", 2).throwsElement("refusal()").due("events(2)", 0);
        PAGE.again()
                .does("addLot(0, 1, 100)").due("open(0)", 10).due("priceIf(0, 9, 50)", 60).due("priceIf(0, 9, 90)", 90)
                .due("priceIf(0, 9, 100)", 100).due("priceIf(0, 9, 120)", 100);
        PAGE.says("- lot: the open lot - bidder: the bidder, 0 to 9 - amount: the step Returns the price then.")
                .times(2, "addLot(0, 1, 0)").does("order(1, 9, 50)").does("open(0)").does("open(1)")
                .due("priceIf(0, 0, 99900)", 10).due("priceIf(1, 0, 99900)", 60).due("priceIf(1, 9, 99900)", 10);
        PAGE.says("Throws IndexOutOfBoundsException if there is no such lot or bidder")
                .does("addLot(0, 1, 0)").does("open(0)").throwsIndex("priceIf(-1, 0, 10)")
                .throwsIndex("priceIf(1, 0, 10)").throwsIndex("priceIf(0, -1, 10)").throwsIndex("priceIf(0, 10, 10)");
        PAGE.says("Throws IllegalArgumentException if the amount is not a step up to 99999")
                .does("addLot(0, 1, 0)").does("open(0)").throwsArgument("priceIf(0, 0, 0)")
                .throwsArgument("priceIf(0, 0, -10)").throwsArgument("priceIf(0, 0, 11)")
                .throwsArgument("priceIf(0, 0, 99999)").throwsArgument("priceIf(0, 0, 100000)");
        PAGE.again().does("setRows(0, 0, 1)").does("addLot(0, 1, 0)").does("open(0)").due("priceIf(0, 0, 1)", 1)
                .due("priceIf(0, 0, 99999)", 1).throwsArgument("priceIf(0, 0, 100000)");
        withAllStates(PAGE.says("Throws IllegalStateException if the lot is not open"))
                .throwsState("priceIf(0, 0, 10)").throwsState("priceIf(2, 0, 10)").throwsState("priceIf(3, 0, 10)")
                .throwsState("priceIf(4, 0, 10)").throwsState("priceIf(5, 0, 10)").throwsState("priceIf(6, 0, 10)");
        listedFirst().does("addLot(0, 1, 0)").throwsIndex("priceIf(1, 0, 11)").throwsIndex("priceIf(0, 10, 0)")
                .throwsIndex("priceIf(0, 10, 11)").throwsIndex("priceIf(0, 10, 100000)")
                .throwsIndex("priceIf(0, 10, 10)").throwsArgument("priceIf(0, 0, 11)");
    }

    // Closing.

    private static void close() {
        PAGE.tells("Closing.");
        withAllStates(PAGE.says("Closes an open lot.")).does("bid(1, 0, 200)").does("close(1)").due("lot(1, 0)", 2)
                .does("open(0)").does("close(0)").due("lot(0, 0)", 3);
        PAGE.says("- lot: the lot Returns the price if it is sold, 0 if it is bought in.")
                .times(2, "addLot(0, 1, 100)").does("open(0)").does("open(1)").does("bid(0, 0, 500)")
                .does("bid(1, 0, 90)").due("close(0)", 100).due("standing(1, 0)", 90).due("close(1)", 0);
        PAGE.says("Throws IndexOutOfBoundsException if there is no such lot")
                .throwsIndex("close(0)").does("addLot(0, 1, 0)").does("open(0)").throwsIndex("close(-1)")
                .throwsIndex("close(1)");
        withAllStates(PAGE.says("Throws IllegalStateException if it is not open"))
                .throwsState("close(0)").throwsState("close(2)").throwsState("close(3)").throwsState("close(4)")
                .throwsState("close(5)").throwsState("close(6)").throwsState("close(8)");
    }

    private static void withdraw() {
        PAGE.says("Withdraws a waiting lot. Its orders are removed.")
                .times(2, "addLot(0, 1, 0)").does("order(0, 0, 50)").does("order(1, 0, 50)").does("withdraw(0)")
                .due("lot(0, 0)", 4).due("orders(0)", 0).throwsElement("maximum(0, 0)").due("orders(-1)", 1);
        PAGE.says("- lot: the lot Returns the number of orders removed.")
                .times(2, "addLot(0, 1, 0)").does("order(0, 0, 50)").does("order(0, 9, 50)").does("order(1, 9, 50)")
                .due("withdraw(0)", 2).does("cancel(1, 9)").due("withdraw(1)", 0);
        PAGE.says("Throws IndexOutOfBoundsException if there is no such lot")
                .throwsIndex("withdraw(0)").does("addLot(0, 1, 0)").throwsIndex("withdraw(-1)")
                .throwsIndex("withdraw(1)");
        withAllStates(PAGE.says("Throws IllegalStateException if it is not waiting"))
                .throwsState("withdraw(1)").throwsState("withdraw(2)").throwsState("withdraw(3)")
                .throwsState("withdraw(4)").throwsState("withdraw(5)").throwsState("withdraw(6)")
                .due("withdraw(8)", 0);
    }

    private static void offer() {
        withAllStates(PAGE.says("Offers a lot that was bought in again: it is waiting, with a new reserve."))
                .does("offer(3, 60)").due("lot(3, 0)", 0).due("lot(3, 3)", 60).due("lots(3)", 0)
                .due("seller(0, 5)", 0).due("seller(0, 2)", 2).due("open(3)", 10);
        PAGE.says("- lot: the lot - reserve: the new reserve Returns the previous reserve.")
                .does("addLot(0, 1, 100)").does("open(0)").does("close(0)").due("offer(0, 99)", 100)
                .does("open(0)").does("close(0)").due("offer(0, 0)", 99);
        PAGE.says("Throws IndexOutOfBoundsException if there is no such lot")
                .throwsIndex("offer(0, 0)").does("addLot(0, 1, 100)").throwsIndex("offer(-1, 0)")
                .throwsIndex("offer(1, 0)");
        PAGE.says("Throws IllegalArgumentException if the reserve is negative or not less than the previous one")
                .does("addLot(0, 1, 100)").does("addLot(0, 1, 0)").does("open(0)").does("open(1)").does("close(0)")
                .does("close(1)").throwsArgument("offer(0, -1)").throwsArgument("offer(0, 100)")
                .throwsArgument("offer(0, 101)").throwsArgument("offer(1, 0)");
        withAllStates(PAGE.says("Throws IllegalStateException if the lot is not bought in"))
                .throwsState("offer(0, 50)").throwsState("offer(1, 50)").throwsState("offer(2, 50)")
                .throwsState("offer(4, 50)").throwsState("offer(5, 50)").throwsState("offer(6, 49)")
                .throwsState("offer(8, 50)");
        listedFirst().does("addLot(0, 1, 100)").throwsIndex("offer(1, -1)").throwsArgument("offer(0, -1)")
                .throwsArgument("offer(0, 100)");
    }

    private static void split() {
        withAllStates(PAGE.says("Splits a waiting lot.")).does("split(0, 2)").due("lot(0, 0)", 5).due("lots(-1)", 11)
                .due("lot(9, 2)", 1).due("lot(10, 3)", 50);
        PAGE.says("- lot: the lot - parts: the number of parts, 2 to 4 Returns the number of the first new lot.")
                .times(2, "addLot(0, 20, 100)").due("split(1, 2)", 2).due("lots(-1)", 4).due("split(0, 4)", 4)
                .due("lots(-1)", 8).due("split(2, 3)", 8).due("lots(-1)", 11);
        PAGE.says("Throws IndexOutOfBoundsException if there is no such lot")
                .throwsIndex("split(0, 2)").does("addLot(0, 5, 0)").throwsIndex("split(-1, 2)")
                .throwsIndex("split(1, 2)");
        PAGE.says("Throws IllegalArgumentException if the number of parts is out of range or greater than the quantity")
                .does("addLot(0, 20, 0)").does("addLot(0, 2, 0)").does("addLot(0, 1, 0)")
                .throwsArgument("split(0, 1)").throwsArgument("split(0, 0)").throwsArgument("split(0, -2)")
                .throwsArgument("split(0, 5)").throwsArgument("split(1, 3)").throwsArgument("split(2, 2)")
                .due("split(1, 2)", 3);
        withAllStates(PAGE.says("Throws IllegalStateException if it is not waiting, or more than 20 lots would have been "
                + "made, or more than 40 orders be kept"))
                .throwsState("split(1, 2)").throwsState("split(2, 2)").throwsState("split(3, 2)")
                .throwsState("split(4, 2)").throwsState("split(5, 2)");
        PAGE.again().times(17, "addLot(0, 4, 0)").throwsState("split(0, 4)").due("split(0, 3)", 17)
                .throwsState("split(1, 2)");
        PAGE.again().times(3, "addLot(0, 4, 0)").each(0, 9, "order(0, #, 50)").each(0, 9, "order(1, #, 50)")
                .does("order(2, 0, 50)")
                .throwsState("split(0, 4)").due("orders(-1)", 21).does("cancel(2, 0)").throwsState("split(0, 4)")
                .due("split(0, 3)", 3).due("orders(-1)", 40);
        withTwentyLots(listedFirst()).throwsIndex("split(20, 1)").throwsArgument("split(0, 1)")
                .throwsArgument("split(0, 3)").does("open(1)").throwsArgument("split(1, 5)").throwsArgument("split(1, 3)");
    }

    private static void group() {
        withAllStates(PAGE.says("Groups two waiting lots.")).does("group(0, 8)").due("lot(0, 0)", 6).due("lot(8, 0)", 6)
                .due("lot(9, 0)", 0).due("lot(9, 2)", 4).due("lot(9, 3)", 200);
        PAGE.says("- lot: the first lot - other: the other lot Returns the number of the new lot.")
                .times(4, "addLot(0, 1, 0)").due("group(2, 1)", 4).event(0, 7, 2, -1, 4)
                .due("group(0, 3)", 5).event(1, 7, 0, -1, 5);
        PAGE.says("Throws IndexOutOfBoundsException if there is no such lot")
                .throwsIndex("group(0, 1)").does("addLot(0, 1, 0)").throwsIndex("group(0, 1)")
                .throwsIndex("group(1, 0)").throwsIndex("group(-1, 0)").throwsIndex("group(0, -1)");
        PAGE.says("Throws IllegalArgumentException if both are the same or belong to different sellers, or the "
                + "quantities or the reserves together are too great")
                .does("addLot(0, 1, 0)").does("addLot(1, 1, 0)").throwsArgument("group(0, 0)")
                .throwsArgument("group(0, 1)").throwsArgument("group(1, 0)")
                .does("addLot(0, 20, 0)").throwsArgument("group(0, 2)").throwsArgument("group(2, 0)")
                .does("addLot(0, 1, 90000)").does("addLot(0, 1, 1)").throwsArgument("group(3, 4)")
                .due("group(3, 0)", 5);
        withAllStates(PAGE.says("Throws IllegalStateException if one of them is not waiting, or 20 lots were made"))
                .throwsState("group(0, 1)").throwsState("group(1, 0)").throwsState("group(0, 2)")
                .throwsState("group(0, 3)").throwsState("group(0, 4)").throwsState("group(0, 5)")
                .throwsState("group(0, 6)").throwsState("group(2, 3)");
        withTwentyLots(PAGE.again()).throwsState("group(0, 1)");
        listedFirst().does("addLot(0, 11, 50000)").does("addLot(1, 1, 0)").does("addLot(0, 10, 0)")
                .does("addLot(0, 1, 40001)").times(15, "addLot(2, 1, 0)").does("open(0)").does("addLot(2, 1, 0)")
                .throwsIndex("group(0, 20)").throwsIndex("group(20, 20)").throwsIndex("group(20, 0)")
                .throwsArgument("group(0, 0)").throwsArgument("group(0, 1)").throwsArgument("group(0, 2)")
                .throwsArgument("group(0, 3)").throwsArgument("group(3, 0)");
    }

    private static void why() {
        PAGE.tells("Returns why a lot was closed as it was at the latest time.");
        PAGE.says("- lot: the lot Returns 0 if it was sold, 1 if nobody led, 2 if the house led, 3 if a bidder led below "
                + "the reserve.")
                .does("addLot(0, 1, 0)").does("addLot(0, 1, 5)").does("addLot(0, 1, 100)").does("addLot(0, 1, 95)")
                .each(0, 3, "open(#)").does("bid(0, 0, 10)").does("bid(3, 0, 90)").each(0, 3, "close(#)")
                .due("why(0)", 0).due("why(1)", 1).due("why(2)", 2).due("why(3)", 3)
                .does("offer(3, 90)").does("open(3)").does("close(3)").due("why(3)", 2);
        PAGE.says("Throws IndexOutOfBoundsException if there is no such lot")
                .throwsIndex("why(0)").does("addLot(0, 1, 0)").throwsIndex("why(-1)").throwsIndex("why(1)");
        withAllStates(PAGE.says("Throws NoSuchElementException if it was not closed since it was made"))
                .due("why(2)", 0).due("why(3)", 2).throwsElement("why(0)").throwsElement("why(1)")
                .throwsElement("why(4)").throwsElement("why(5)").throwsElement("why(6)").throwsElement("why(8)");
    }

    private static void sold() {
        PAGE.says("Returns the buyer or the price of a sold lot.")
                .times(2, "addLot(0, 1, 100)").does("order(1, 0, 200)").does("order(1, 9, 300)").does("open(1)")
                .does("close(1)").due("sold(1, false)", 9).due("sold(1, true)", 220);
        PAGE.says("- lot: the lot - isPrice: whether the price is asked for Returns the bidder, or the price.")
                .does("addLot(0, 1, 0)").does("open(0)").does("bid(0, 0, 50)").does("close(0)")
                .due("sold(0, false)", 0).due("sold(0, true)", 10);
        PAGE.says("Throws IndexOutOfBoundsException if there is no such lot")
                .throwsIndex("sold(0, true)").does("addLot(0, 1, 0)").throwsIndex("sold(-1, true)")
                .throwsIndex("sold(1, false)");
        withAllStates(PAGE.says("Throws NoSuchElementException if it is not sold")).due("sold(2, true)", 100)
                .throwsElement("sold(0, true)").throwsElement("sold(1, false)").throwsElement("sold(3, true)")
                .throwsElement("sold(4, false)").throwsElement("sold(5, true)").throwsElement("sold(6, false)");
    }

    // Accounts.

    private static void premium() {
        PAGE.tells("Accounts.");
        PAGE.says("Returns the premium of a price.").due("premium(999)", 249).due("premium(1001)", 250)
                .due("premium(4999)", 1049).due("premium(10000)", 1650);
        PAGE.says("- price: the price, 0 to 99999 Returns the premium.").due("premium(0)", 0)
                .due("premium(99999)", 12449);
        PAGE.says("Throws IllegalArgumentException if the price is out of range")
                .throwsArgument("premium(-1)").throwsArgument("premium(100000)");
    }

    private static void bidder() {
        PAGE.tells("Returns a number of the account of a bidder.");
        PAGE.says("- bidder: the bidder, 0 to 9 - what: 0 for the credit, 1 for the sum of the prices of the lots bought, "
                + "2 for the sum of their premiums, 3 for both together, 4 for the number of lots bought, 5 for the "
                + "exposure, 6 for the number of open lots on which the bidder leads Returns the number.")
                .does("addLot(0, 1, 5)").does("addLot(1, 1, 1050)").times(3, "addLot(2, 1, 0)").each(0, 1, "open(#)")
                .does("bid(0, 9, 20)").does("bid(1, 9, 2000)")
                .due("close(0)", 10).due("close(1)", 1050).each(2, 4, "open(#)").does("bid(2, 9, 300)")
                .does("bid(3, 9, 70)").does("bid(3, 0, 50)").does("setCredit(9, 77)")
                .due("bidder(9, 0)", 77).due("bidder(9, 1)", 1060).due("bidder(9, 2)", 262).due("bidder(9, 3)", 1322)
                .due("bidder(9, 4)", 2).due("bidder(9, 5)", 1430).due("bidder(9, 6)", 2)
                .due("bidder(0, 0)", 20000).due("bidder(0, 1)", 0).due("bidder(0, 2)", 0).due("bidder(0, 3)", 0)
                .due("bidder(0, 4)", 0).due("bidder(0, 5)", 0).due("bidder(0, 6)", 0);
        PAGE.says("Throws IndexOutOfBoundsException if there is no such bidder")
                .throwsIndex("bidder(-1, 0)").throwsIndex("bidder(10, 0)");
        PAGE.says("Throws IllegalArgumentException if what is not from 0 to 6")
                .throwsArgument("bidder(0, -1)").throwsArgument("bidder(0, 7)");
        listedFirst().throwsIndex("bidder(10, 7)");
    }

    private static void seller() {
        PAGE.tells("Returns a number of the account of a seller.");
        PAGE.says("- seller: the seller, 0 to 5 - what: 0 for the sum of the prices of the lots sold, 1 for the "
                + "commissions, 2 for the fees, 3 for the first less the others, 4 for the number of lots sold, 5 for "
                + "the number of lots that are bought in Returns the number.")
                .does("addLot(5, 1, 0)").does("addLot(5, 1, 300)").times(2, "addLot(5, 1, 500)").does("addLot(0, 1, 0)")
                .each(0, 4, "open(#)").does("bid(0, 0, 50)").does("bid(1, 1, 300)").does("bid(4, 1, 50)")
                .each(0, 3, "close(#)")
                .due("seller(5, 0)", 310).due("seller(5, 1)", 35).due("seller(5, 2)", 20).due("seller(5, 3)", 255)
                .due("seller(5, 4)", 2).due("seller(5, 5)", 2)
                .due("seller(0, 0)", 0).due("seller(0, 1)", 0).due("seller(0, 2)", 0).due("seller(0, 3)", 0)
                .due("seller(0, 4)", 0).due("seller(0, 5)", 0)
                .does("offer(2, 400)").due("seller(5, 5)", 1).due("seller(5, 2)", 20)
                .does("open(2)").does("close(2)").due("seller(5, 5)", 2).due("seller(5, 2)", 28);
        PAGE.says("Throws IndexOutOfBoundsException if there is no such seller")
                .throwsIndex("seller(-1, 0)").throwsIndex("seller(6, 0)");
        PAGE.says("Throws IllegalArgumentException if what is not from 0 to 5")
                .throwsArgument("seller(0, -1)").throwsArgument("seller(0, 6)");
        listedFirst().throwsIndex("seller(6, 6)");
    }

    private static void house() {
        PAGE.tells("Returns a number of the account of the house.");
        PAGE.says("- what: 0 for its income, 1 for the sum of all prices, 2 for the sum that all bidders pay, 3 for the "
                + "sum that all sellers get Returns the number.")
                .due("house(0)", 0).due("house(1)", 0).due("house(2)", 0).due("house(3)", 0)
                .does("addLot(5, 1, 100)").does("addLot(0, 1, 1000)").does("addLot(1, 1, 400)").each(0, 2, "open(#)")
                .does("bid(0, 0, 500)").does("bid(1, 9, 2000)").each(0, 2, "close(#)")
                // Premiums 25 and 250, commissions 10 and 100, a fee of 8.
                .due("house(0)", 393).due("house(1)", 1100).due("house(2)", 1375).due("house(3)", 982);
        PAGE.says("Throws IllegalArgumentException if what is not from 0 to 3")
                .throwsArgument("house(-1)").throwsArgument("house(4)");
    }

    private static void soldShare() {
        PAGE.says("Returns the share of the lots closed that were sold: the number of events of kind 3 in the ledger, "
                + "divided by that of the events of kind 3 and 4. Returns the quotient of both numbers as doubles.")
                .times(3, "addLot(0, 1, 5)").each(0, 2, "open(#)").does("close(0)").due("soldShare()", 0)
                .does("bid(1, 0, 10)").does("close(1)").due("soldShare()", 0.5)
                .does("close(2)").due("soldShare()", 1.0 / 3.0)
                .does("offer(2, 4)").does("open(2)").does("bid(2, 0, 10)").does("close(2)").due("soldShare()", 0.5);
        PAGE.says("Throws ArithmeticException if there are no such events")
                .throwsArithmetic("soldShare()").does("addLot(0, 1, 0)").does("open(0)").throwsArithmetic("soldShare()")
                .does("close(0)").does("undo()").throwsArithmetic("soldShare()");
    }

    // Ledger, texts and changes.

    private static void events() {
        PAGE.tells("Ledger, texts and changes.");
        withAllStates(PAGE.says("Returns the number of events in the ledger.")).due("events(1)", 3).due("events(2)", 1)
                .due("events(3)", 1).due("events(4)", 1).due("events(5)", 1).due("events(6)", 1).due("events(7)", 1)
                .due("events(0)", 0).due("events(8)", 0).due("events(9)", 0)
                .does("offer(3, 0)").due("events(8)", 1)
                .does("order(0, 0, 50)").does("cancel(0, 0)").due("events(0)", 1).due("events(9)", 1);
        withAllStates(PAGE.says("- kind: the kind of events, or -1 for all Returns the number.")).due("events(-1)", 9);
        PAGE.says("Throws IllegalArgumentException if kind is not from -1 to 9")
                .throwsArgument("events(-2)").due("events(9)", 0).throwsArgument("events(10)");
    }

    private static void event() {
        PAGE.tells("Returns a number of an event.");
        PAGE.says("- event: the event, from 0 - what: 0 for its kind, 1 for the lot, 2 for the bidder, 3 for the amount "
                + "Returns the number.")
                .times(2, "addLot(0, 1, 0)").does("order(1, 8, 66)").does("cancel(1, 8)")
                .due("event(0, 0)", 0).due("event(0, 1)", 1).due("event(0, 2)", 8).due("event(0, 3)", 66)
                .due("event(1, 0)", 9).due("event(1, 1)", 1).due("event(1, 2)", 8).due("event(1, 3)", 66);
        PAGE.says("Throws IndexOutOfBoundsException if there is no such event")
                .throwsIndex("event(0, 0)").does("addLot(0, 1, 0)").throwsIndex("event(0, 0)").does("open(0)")
                .due("event(0, 0)", 1).throwsIndex("event(1, 0)").throwsIndex("event(-1, 0)");
        PAGE.says("Throws IllegalArgumentException if what is not from 0 to 3")
                .does("addLot(0, 1, 0)").does("open(0)").throwsArgument("event(0, -1)").throwsArgument("event(0, 4)");
        listedFirst().throwsIndex("event(0, 4)");
    }

    private static void audit() {
        PAGE.says("Audits the accounts: from the ledger alone, the sum of the prices of the lots sold to each bidder, "
                + "and the fees of each seller, are found once more. Returns the number of bidders and sellers for whom "
                + "this differs from their accounts.")
                .due("audit()", 0)
                .does("addLot(0, 1, 0)").does("addLot(1, 1, 1000)").does("addLot(2, 1, 1000)").each(0, 2, "open(#)")
                .does("bid(0, 0, 50)").does("close(0)").does("close(1)").due("audit()", 0)
                .does("offer(1, 500)").does("open(1)").does("close(1)").due("audit()", 0)
                .does("undo()").due("audit()", 0);
        PAGE.again()
                .does("addLot(0, 1, 0)").does("addLot(1, 1, 1000)").does("addLot(2, 1, 1000)").does("addLot(3, 1, 49)")
                .times(2, "addLot(0, 1, 0)").times(125, "order(4, 0, 10)", "cancel(4, 0)").due("events(-1)", 250)
                .each(0, 3, "open(#)").does("bid(0, 0, 50)").due("audit()", 0)
                .does("close(0)").due("audit()", 1).does("close(1)").due("audit()", 2).does("close(2)").due("audit()", 3)
                // The fee is 0, and so is what the ledger has of it.
                .does("close(3)").due("audit()", 3)
                .does("open(5)").does("bid(5, 0, 10)").does("close(5)").due("audit()", 3);
    }

    private static void append() {
        PAGE.says("Appends a character to the text buffer.")
                .does("addLot(0, 1, 0)").text("o").text("0").due("read()", 1).due("lot(0, 0)", 1);
        PAGE.says("- c: the character").faulty("o" + (char) 1632, 1).faulty("" + (char) 65535, 0);
        PAGE.says("Throws IllegalStateException if the buffer contains 60 characters")
                .text("o00000;o00000;o00000;o00000;o00000;o00000;o00000;o00000;h001")
                .throwsState("append(48)").throwsState("append(0)").due("read()", 0).due("faultPosition()", -1)
                .text("o");
    }

    private static void read() {
        PAGE.says("Reads the text buffer as a text of commands and carries them out, from left to right, until one of "
                + "them throws an exception as a call; that one and all behind it are not carried out.")
                .times(3, "addLot(0, 1, 0)").reads("a0,0,50;o0;b0,1,70;h0;w1", 5)
                .due("sold(0, false)", 1).due("sold(0, true)", 60).due("lot(1, 0)", 4)
                .reads("o2;w2;h2", 1).due("lot(2, 0)", 1).reads("h2;o9;w0", 1).due("lot(2, 0)", 3);
        PAGE.says("The buffer is emptied, also if an exception is thrown.")
                .times(2, "addLot(0, 1, 0)").reads("o0", 1).reads("o1", 1).faulty("h0;h", 4).reads("h1", 1)
                .due("lot(0, 0)", 1).reads("o0;h0", 0).reads("h0", 1).faulty("", 0);
        PAGE.says("Returns the number of commands carried out.")
                .does("addLot(0, 1, 0)").reads("h0", 0).reads("a0,0,50", 1).reads("c0,0;a0,1,60;o0;h0", 4);
        PAGE.says("Throws IllegalArgumentException if the text has a fault; then nothing is carried out")
                .does("addLot(0, 1, 0)").faulty("o0;h0;", 6).due("lot(0, 0)", 0).faulty("o0;x", 3)
                .due("lot(0, 0)", 0).due("events(-1)", 0);
    }

    private static void faultPosition() {
        PAGE.tells("Returns the fault position of the text of the latest call of read.");
        PAGE.says("Returns the fault position, or -1 if the text had no fault or read has not been called.")
                .due("faultPosition()", -1).text("x").due("faultPosition()", -1).faulty("", 0).faulty("o", 1)
                .text("o0").due("faultPosition()", 1).does("read()").due("faultPosition()", -1)
                .faulty("o0;o0.", 5).faulty("a1,2", 4);
    }

    private static void undo() {
        PAGE.says("Undoes the latest change that is kept.")
                .does("addLot(0, 1, 0)").does("addLot(1, 1, 0)").does("open(0)").does("undo()").due("lot(0, 0)", 0)
                .does("undo()").due("lots(-1)", 1).due("addLot(2, 1, 0)", 1).due("lot(1, 1)", 2);
        PAGE.says("Returns the number of changes that can still be undone.")
                .does("addLot(0, 1, 0)").does("open(0)").does("close(0)").due("undo()", 2).due("undo()", 1)
                .due("undo()", 0).due("lots(-1)", 0);
        PAGE.again().times(14, "addLot(0, 1, 0)").due("undo()", 9).due("lots(-1)", 13);
        PAGE.says("Throws IllegalStateException if no change is kept")
                .throwsState("undo()").does("setCredit(0, 20000)").due("undo()", 0).throwsState("undo()");
    }

    private static void save() {
        PAGE.says("Saves the sale, in place of an earlier snapshot.")
                .does("setCredit(0, 1)").does("save()").does("setCredit(0, 2)").does("save()").does("setCredit(0, 3)")
                .does("restore()").due("bidder(0, 0)", 2)
                .does("setCredit(0, 4)").due("undo()", 0).due("bidder(0, 0)", 2);
        PAGE.again()
                // save is no change, and leaves those that are kept.
                .does("setCredit(0, 1)").does("save()").due("undo()", 0).due("bidder(0, 0)", 20000);
    }

    private static void restore() {
        PAGE.says("Restores what was saved; the snapshot is kept.")
                .does("addLot(0, 1, 100)").does("order(0, 0, 50)").does("save()").does("withdraw(0)").does("restore()")
                .due("lot(0, 0)", 0).due("maximum(0, 0)", 50).does("open(0)").does("restore()").due("lot(0, 0)", 0)
                .does("addLot(0, 1, 0)").does("restore()").due("lots(-1)", 1);
        PAGE.says("Throws IllegalStateException if there is no snapshot")
                .throwsState("restore()").does("setCredit(0, 1)").throwsState("restore()").does("save()")
                .does("restore()");
    }

    public static void main(String[] args) {
        newObject();
        addLot();
        lot();
        lots();
        setRows();
        row();
        step();
        nextStep();
        setCredit();
        order();
        cancel();
        maximum();
        orders();
        open();
        bid();
        refusal();
        wouldRefuse();
        standing();
        limit();
        priceIf();
        close();
        withdraw();
        offer();
        split();
        group();
        why();
        sold();
        premium();
        bidder();
        seller();
        house();
        soldShare();
        events();
        event();
        audit();
        append();
        read();
        faultPosition();
        undo();
        save();
        restore();
        PAGE.ends();
        Expect.end();
    }
}

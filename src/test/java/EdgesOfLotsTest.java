/** The edges of the sentences on steps, people and lots, and of promises 1 to 9. */
public final class EdgesOfLotsTest {
    private EdgesOfLotsTest() {
    }

    // Steps.

    private static void rowsOfTheTable() {
        new Run("The table of increments consists of 1 to 6 rows")
                .due("setRows(4, 3000, 1)", 5)
                .due("setRows(5, 4000, 2)", 6)
                .due("row(5, 0)", 4000).due("row(5, 1)", 2)
                .throwsIndex("row(6, 0)")
                .throwsIndex("setRows(6, 5000, 3)")
                .due("setRows(5, 5000, 3)", 6)
                .due("row(5, 0)", 5000)
                .due("setRows(0, 0, 4)", 1)
                .due("row(0, 1)", 4)
                .throwsIndex("row(1, 0)");
    }

    private static void increments() {
        new Run("each with a bound and an increment from 1 to 5000")
                .throwsArgument("setRows(0, 0, 0)")
                .throwsArgument("setRows(0, 0, -1)")
                .due("setRows(0, 0, 1)", 1)
                .due("setRows(0, 0, 5000)", 1)
                .throwsArgument("setRows(0, 0, 5001)")
                .throwsArgument("setRows(1, 5, 0)")
                .due("setRows(1, 5, 1)", 2)
                .due("setRows(2, 6, 5000)", 3)
                .throwsArgument("setRows(3, 7, 5001)");
    }

    private static void firstBound() {
        new Run("the bound of the first row is 0")
                .throwsArgument("setRows(0, 1, 10)")
                .throwsArgument("setRows(0, -1, 10)")
                .throwsArgument("setRows(0, 90000, 10)")
                .due("setRows(0, 0, 10)", 1);
    }

    private static void ascendingBounds() {
        new Run("and the bounds ascend up to at most 90000")
                .throwsArgument("setRows(1, 0, 5)")
                .due("setRows(1, 1, 5)", 2)
                .throwsArgument("setRows(2, 1, 6)")
                .throwsArgument("setRows(2, 0, 6)")
                .due("setRows(2, 2, 6)", 3)
                .throwsArgument("setRows(3, 90001, 7)")
                .due("setRows(3, 89999, 7)", 4)
                .throwsArgument("setRows(4, 89999, 8)")
                .due("setRows(4, 90000, 8)", 5)
                .throwsArgument("setRows(5, 90000, 9)")
                .throwsArgument("setRows(5, 90001, 9)");
    }

    private static void firstStep() {
        new Run("The steps are prices: the first one is the increment of the first row")
                .due("setRows(0, 0, 5000)", 1)
                .due("step(4999)", 0).due("step(5000)", 5000)
                .due("nextStep(0)", 5000).due("nextStep(4999)", 5000).due("nextStep(5000)", 10000)
                .due("setRows(0, 0, 1)", 1)
                .due("step(0)", 0).due("step(1)", 1)
                .due("nextStep(0)", 1).due("nextStep(1)", 2);
    }

    private static void nextSteps() {
        String sentence = "each next one is a step plus the increment of the last row whose bound is not greater than "
                + "this step";
        // The step 20 is the bound, so that the next one is by the second row.
        new Run(sentence).due("setRows(1, 20, 3)", 2)
                .due("nextStep(10)", 20).due("nextStep(20)", 23).due("nextStep(23)", 26)
                .due("step(22)", 20).due("step(23)", 23);
        // The step 20 is below the bound: 10, 20, 30, 33.
        new Run(sentence).due("setRows(1, 21, 3)", 2)
                .due("nextStep(20)", 30).due("nextStep(30)", 33)
                .due("step(29)", 20).due("step(32)", 30).due("step(33)", 33);
        // The step 20 is above the bound, 10 is below it.
        new Run(sentence).due("setRows(1, 19, 3)", 2)
                .due("nextStep(10)", 20).due("nextStep(20)", 23);
    }

    private static void rowsWithoutSteps() {
        // Steps 100, 103, 108, 113: the rows of 1, 99 and 101 lead to no step.
        new Run("each next one is a step plus the increment of the last row whose bound is not greater than this step")
                .due("setRows(0, 0, 100)", 1).due("setRows(1, 1, 1)", 2).due("setRows(2, 99, 2)", 3)
                .due("setRows(3, 100, 3)", 4).due("setRows(4, 101, 4)", 5).due("setRows(5, 103, 5)", 6)
                .due("step(99)", 0).due("step(100)", 100).due("step(102)", 100).due("step(103)", 103)
                .due("step(107)", 103).due("step(108)", 108)
                .due("nextStep(0)", 100).due("nextStep(99)", 100).due("nextStep(100)", 103)
                .due("nextStep(102)", 103).due("nextStep(103)", 108).due("nextStep(107)", 108)
                .due("nextStep(108)", 113);
    }

    private static void firstRows() {
        new Run("At first, the rows are 0 and 10, 100 and 20, 500 and 50, 2000 and 100")
                .due("row(0, 0)", 0).due("row(0, 1)", 10)
                .due("row(1, 0)", 100).due("row(1, 1)", 20)
                .due("row(2, 0)", 500).due("row(2, 1)", 50)
                .due("row(3, 0)", 2000).due("row(3, 1)", 100)
                .throwsIndex("row(4, 0)")
                .due("nextStep(90)", 100).due("nextStep(100)", 120)
                .due("nextStep(480)", 500).due("nextStep(500)", 550)
                .due("nextStep(1950)", 2000).due("nextStep(2000)", 2100)
                .due("step(99)", 90).due("step(100)", 100).due("step(119)", 100).due("step(120)", 120)
                .due("step(499)", 480).due("step(549)", 500).due("step(1999)", 1950).due("step(2099)", 2000);
    }

    private static void stepOfAnAmount() {
        new Run("The step of an amount is the greatest step that is not greater than it, or 0 if there is none.")
                .due("step(0)", 0).due("step(9)", 0).due("step(10)", 10).due("step(11)", 10)
                .due("step(19)", 10).due("step(20)", 20).due("step(21)", 20);
    }

    // People.

    private static void bidders() {
        new Run("There are ten bidders, 0 to 9")
                .does("addLot(0, 1, 0)")
                .throwsIndex("setCredit(-1, 5)").due("setCredit(0, 5)", 20000)
                .due("setCredit(9, 5)", 20000).throwsIndex("setCredit(10, 5)")
                .throwsIndex("order(0, -1, 5)").due("order(0, 0, 5)", 1)
                .due("order(0, 9, 5)", 2).throwsIndex("order(0, 10, 5)")
                .throwsIndex("maximum(0, -1)").due("maximum(0, 0)", 5)
                .due("maximum(0, 9)", 5).throwsIndex("maximum(0, 10)")
                .throwsIndex("bidder(-1, 0)").due("bidder(0, 0)", 5)
                .due("bidder(9, 0)", 5).throwsIndex("bidder(10, 0)");
    }

    private static void credits() {
        new Run("each with a credit from 0 to 999999")
                .throwsArgument("setCredit(3, -1)")
                .due("setCredit(3, 0)", 20000)
                .due("setCredit(3, 999999)", 0)
                .throwsArgument("setCredit(3, 1000000)")
                .due("bidder(3, 0)", 999999);
    }

    private static void sellers() {
        new Run("and six sellers, 0 to 5")
                .throwsArgument("addLot(-1, 1, 0)").due("addLot(0, 1, 0)", 0)
                .due("addLot(5, 1, 0)", 1).throwsArgument("addLot(6, 1, 0)")
                .throwsIndex("seller(-1, 0)").due("seller(0, 0)", 0)
                .due("seller(5, 0)", 0).throwsIndex("seller(6, 0)");
    }

    private static void theHouse() {
        new Run("The house is told as bidder 10.")
                .does("addLot(0, 1, 100)").does("open(0)")
                .due("standing(0, 1)", 10)
                .throwsIndex("bid(0, 10, 100)")
                .throwsIndex("priceIf(0, 10, 100)")
                .throwsIndex("bidder(10, 5)");
    }

    // Lots.

    private static void twentyLots() {
        new Run("At most 20 lots are made, numbered from 0.")
                .due("addLot(0, 1, 0)", 0)
                .times(18, "addLot(0, 1, 0)")
                .throwsIndex("lot(19, 0)")
                .due("addLot(0, 1, 0)", 19)
                .due("lot(19, 0)", 0)
                .throwsState("addLot(0, 1, 0)")
                .throwsIndex("lot(20, 0)")
                .does("withdraw(0)")
                .throwsState("addLot(0, 1, 0)")
                .due("lots(-1)", 20);
    }

    private static void lotsMadeBySplitting() {
        new Run("At most 20 lots are made")
                .times(16, "addLot(0, 4, 0)")
                .due("split(0, 3)", 16)
                .due("addLot(0, 1, 0)", 19)
                .throwsState("addLot(0, 1, 0)");
        new Run("At most 20 lots are made")
                .times(18, "addLot(0, 4, 0)")
                .due("group(0, 1)", 18)
                .due("addLot(0, 1, 0)", 19)
                .throwsState("addLot(0, 1, 0)");
    }

    private static void quantities() {
        new Run("A lot has a seller, a quantity from 1 to 20")
                .throwsArgument("addLot(0, 0, 0)").throwsArgument("addLot(0, -1, 0)")
                .due("addLot(0, 1, 0)", 0).due("lot(0, 2)", 1)
                .due("addLot(0, 20, 0)", 1).due("lot(1, 2)", 20)
                .throwsArgument("addLot(0, 21, 0)");
    }

    private static void reserves() {
        new Run("a reserve from 0 to 90000")
                .throwsArgument("addLot(0, 1, -1)")
                .due("addLot(0, 1, 0)", 0).due("lot(0, 3)", 0)
                .due("addLot(0, 1, 90000)", 1).due("lot(1, 3)", 90000)
                .throwsArgument("addLot(0, 1, 90001)");
    }

    private static void states() {
        new Run("and a state: 0 waiting, 1 open, 2 sold, 3 bought in, 4 withdrawn, 5 split, 6 grouped")
                .times(8, "addLot(0, 2, 0)")
                .does("open(1)")
                .does("open(2)").does("bid(2, 0, 10)").does("close(2)")
                .does("open(3)").does("close(3)")
                .does("withdraw(4)").does("split(5, 2)").does("group(6, 7)")
                .due("lot(0, 0)", 0).due("lot(1, 0)", 1).due("lot(2, 0)", 2).due("lot(3, 0)", 3)
                .due("lot(4, 0)", 4).due("lot(5, 0)", 5).due("lot(6, 0)", 6).due("lot(7, 0)", 6)
                .due("lots(0)", 4).due("lots(1)", 1).due("lots(2)", 1).due("lots(3)", 1)
                .due("lots(4)", 1).due("lots(5)", 1).due("lots(6)", 2).due("lots(-1)", 11);
    }

    // Promises 1 to 9.

    private static void newObject() {
        new Run("Creates a sale without lots, in which every bidder has a credit of 20000.")
                .due("lots(-1)", 0)
                .throwsIndex("lot(0, 0)")
                .due("bidder(0, 0)", 20000).due("bidder(9, 0)", 20000)
                .due("events(-1)", 0).due("orders(-1)", 0)
                .throwsState("undo()").throwsState("restore()").throwsElement("refusal()")
                .due("addLot(0, 1, 0)", 0)
                .due("order(0, 9, 20000)", 1)
                .refused("order(0, 0, 20001)", 8);
    }

    private static void addLotExceptions() {
        new Run("IllegalStateException if 20 lots were made")
                .times(20, "addLot(0, 1, 0)")
                .throwsArgument("addLot(6, 1, 0)")
                .throwsArgument("addLot(0, 21, 0)")
                .throwsArgument("addLot(0, 1, 90001)")
                .throwsState("addLot(5, 20, 90000)")
                .due("undo()", 9)
                .due("addLot(5, 20, 90000)", 19);
    }

    private static void lot() {
        new Run("Returns a number of a lot.")
                .throwsIndex("lot(0, 0)")
                .does("addLot(3, 7, 123)").does("addLot(4, 8, 124)")
                .throwsIndex("lot(-1, 0)")
                .due("lot(0, 1)", 3).due("lot(1, 1)", 4)
                .throwsIndex("lot(2, 0)")
                .throwsArgument("lot(1, -1)")
                .due("lot(1, 0)", 0).due("lot(1, 4)", 0)
                .throwsArgument("lot(1, 5)")
                .throwsIndex("lot(2, 5)").throwsIndex("lot(-1, -1)");
    }

    private static void openings() {
        new Run("4 for how often it was opened")
                .does("addLot(0, 1, 50)")
                .due("lot(0, 4)", 0)
                .does("open(0)").due("lot(0, 4)", 1)
                .throwsState("open(0)").due("lot(0, 4)", 1)
                .does("close(0)").does("offer(0, 49)").due("lot(0, 4)", 1)
                .does("open(0)").due("lot(0, 4)", 2)
                .does("undo()").due("lot(0, 4)", 1);
    }

    private static void lots() {
        new Run("the state, or -1 for all")
                .due("lots(-1)", 0).due("lots(0)", 0).due("lots(6)", 0)
                .does("addLot(0, 1, 0)")
                .throwsArgument("lots(-2)")
                .due("lots(-1)", 1).due("lots(0)", 1).due("lots(6)", 0)
                .throwsArgument("lots(7)");
    }

    private static void rowsThatStay() {
        new Run("if the number of rows that stay is not from 0 to 5, or greater than the number of rows")
                .throwsIndex("setRows(-1, 0, 1)")
                .due("setRows(0, 0, 1)", 1)
                .throwsIndex("setRows(2, 5, 1)")
                .due("setRows(1, 5, 1)", 2)
                .throwsIndex("setRows(3, 6, 1)")
                .due("setRows(2, 6, 1)", 3).due("setRows(3, 7, 1)", 4)
                .due("setRows(4, 8, 1)", 5).due("setRows(5, 9, 1)", 6)
                .throwsIndex("setRows(6, 10, 1)").throwsIndex("setRows(7, 10, 1)")
                .due("setRows(5, 10, 1)", 6);
    }

    private static void rowsWhileALotIsOpen() {
        new Run("IllegalStateException if a lot is open")
                .does("addLot(0, 1, 0)").does("addLot(0, 1, 0)")
                .due("setRows(4, 3000, 7)", 5)
                .does("open(1)")
                .throwsState("setRows(5, 4000, 7)")
                .throwsState("setRows(0, 0, 1)")
                .throwsArgument("setRows(0, 1, 1)")
                .throwsArgument("setRows(0, 0, 5001)")
                .throwsIndex("setRows(6, 0, 5001)")
                .does("close(1)")
                .due("setRows(5, 4000, 7)", 6);
    }

    private static void row() {
        new Run("Returns a part of a row of the table.")
                .throwsIndex("row(-1, 0)").due("row(0, 0)", 0)
                .due("row(3, 0)", 2000).throwsIndex("row(4, 0)")
                .throwsArgument("row(3, -1)").due("row(3, 1)", 100).throwsArgument("row(3, 2)")
                .throwsIndex("row(4, 2)").throwsIndex("row(-1, -1)");
    }

    private static void amountOfStep() {
        new Run("the amount, 0 to 99999")
                .throwsArgument("step(-1)").due("step(0)", 0)
                .due("step(99999)", 99900).throwsArgument("step(100000)")
                .does("setRows(0, 0, 1)")
                .due("step(99999)", 99999).throwsArgument("step(100000)");
    }

    private static void amountOfNextStep() {
        new Run("Returns the least step that is greater than an amount.")
                .throwsArgument("nextStep(-1)").due("nextStep(0)", 10)
                .due("nextStep(9)", 10).due("nextStep(10)", 20).due("nextStep(11)", 20)
                .due("nextStep(99899)", 99900).due("nextStep(99900)", 100000)
                .due("nextStep(99999)", 100000).throwsArgument("nextStep(100000)")
                .does("setRows(4, 90000, 5000)")
                .due("nextStep(99999)", 100000)
                .does("setRows(4, 89900, 4999)")
                // 89900, 94899, 99898, 104897.
                .due("nextStep(99897)", 99898).due("nextStep(99898)", 104897).due("nextStep(99999)", 104897);
    }

    private static void setCreditExceptions() {
        new Run("Sets the credit of a bidder.")
                .throwsIndex("setCredit(10, 1000000)").throwsIndex("setCredit(-1, -1)")
                .throwsArgument("setCredit(9, 1000000)")
                .due("setCredit(9, 20000)", 20000)
                .due("undo()", 0);
    }

    public static void main(String[] args) {
        rowsOfTheTable();
        increments();
        firstBound();
        ascendingBounds();
        firstStep();
        nextSteps();
        rowsWithoutSteps();
        firstRows();
        stepOfAnAmount();
        bidders();
        credits();
        sellers();
        theHouse();
        twentyLots();
        lotsMadeBySplitting();
        quantities();
        reserves();
        states();
        newObject();
        addLotExceptions();
        lot();
        openings();
        lots();
        rowsThatStay();
        rowsWhileALotIsOpen();
        row();
        amountOfStep();
        amountOfNextStep();
        setCreditExceptions();
        Expect.end();
    }
}

/** The edges of the sentences on changes, and of promises 39 to 41. */
public final class EdgesOfChangesTest {
    private EdgesOfChangesTest() {
    }

    /** A sale in which each kind of change can be made, and of which no change is kept. */
    private static Run sale(String sentence) {
        return new Run(sentence)
                .does("addLot(0, 4, 100)").does("addLot(1, 4, 50)").does("addLot(1, 3, 60)")
                .does("addLot(2, 4, 500)").does("addLot(3, 1, 0)").does("addLot(3, 1, 0)")
                .does("order(0, 1, 200)").does("order(0, 2, 300)").does("order(1, 1, 60)").does("order(2, 1, 70)")
                .does("open(3)").does("bid(3, 5, 100)").does("close(3)")
                .does("open(5)").does("bid(5, 8, 30)").does("close(5)")
                .does("save()").does("restore()");
    }

    private static void undone(String change) {
        undone(sale("The sale before each of the latest 10 changes is kept and can be undone"), change);
        Run other = sale("The sale before each of the latest 10 changes is kept and can be undone");
        // With another lot open, which setRows does not allow.
        if (!change.startsWith("setRows")) {
            undone(other.does("open(4)").does("bid(4, 6, 50)").does("save()").does("restore()"), change);
        }
    }

    /** Made, undone and made once more, the change has done what it does if it is made once. */
    private static void undone(Run run, String change) {
        int before = run.length();
        run.does(change);
        int after = run.length();
        run.due("undo()", 0).isAsAfter(before)
                .does(change).isAsAfter(after)
                .due("undo()", 0).throwsState("undo()");
    }

    private static void eachChange() {
        undone("addLot(5, 20, 90000)");
        undone("order(0, 3, 50)");
        undone("order(0, 1, 201)");
        undone("cancel(0, 2)");
        undone("open(0)");
        undone("withdraw(0)");
        undone("offer(3, 499)");
        undone("split(0, 3)");
        undone("group(1, 2)");
        undone("setCredit(0, 5)");
        undone("setCredit(0, 20000)");
        undone("setRows(1, 7, 3)");
        undone("setRows(4, 90000, 5000)");
        undone(sale("A change is a successful call of addLot, order, cancel, open, bid, close")
                .does("open(4)").does("save()").does("restore()"), "bid(4, 6, 50)");
        undone(sale("A change is a successful call of addLot, order, cancel, open, bid, close")
                .does("open(4)").does("bid(4, 6, 50)").does("save()").does("restore()"), "bid(4, 7, 50)");
        undone(sale("A change is a successful call of addLot, order, cancel, open, bid, close")
                .does("open(4)").does("bid(4, 6, 50)").does("save()").does("restore()"), "close(4)");
        undone(sale("A change is a successful call of addLot, order, cancel, open, bid, close")
                .does("open(1)").does("save()").does("restore()"), "close(1)");
        undone(sale("A change is a successful call of addLot, order, cancel, open, bid, close")
                .does("open(4)").does("save()").does("restore()"), "close(4)");
    }

    private static void changesOfTexts() {
        String[] commands = {"o0", "w0", "a0,3,50", "a0,1,201", "c0,2", "b4,6,50", "h4"};
        for (String command : commands) {
            Run run = sale("also one that is made by a text").does("open(4)").does("save()").does("restore()");
            int before = run.length();
            run.reads(command, 1).due("undo()", 0).isAsAfter(before);
        }
    }

    private static void noChanges() {
        Run run = sale("A change is a successful call")
                .throwsArgument("addLot(6, 1, 0)").refused("order(0, 1, 200)", 7).throwsElement("cancel(0, 9)")
                .throwsState("open(3)").refused("bid(0, 1, 10)", 1).throwsState("close(0)").throwsState("withdraw(3)")
                .throwsArgument("offer(3, 500)").throwsArgument("split(0, 5)").throwsArgument("group(0, 1)")
                .throwsArgument("setCredit(0, 1000000)").throwsArgument("setRows(0, 1, 1)")
                .throwsState("undo()");
        run.does("save()").throwsState("undo()")
                .faulty("o0;", 3).throwsState("undo()")
                .reads("o3", 0).throwsState("undo()")
                .does("restore()").throwsState("undo()");
    }

    private static void tenChanges() {
        Run run = new Run("The sale before each of the latest 10 changes is kept and can be undone")
                .each(1, 9, "setCredit(0, #)");
        for (int left = 8; left >= 0; left--) {
            run.due("undo()", left).due("bidder(0, 0)", left == 0 ? 20000 : left);
        }
        run.throwsState("undo()");
        run = new Run("The sale before each of the latest 10 changes is kept and can be undone")
                .each(1, 10, "setCredit(0, #)");
        for (int left = 9; left >= 0; left--) {
            run.due("undo()", left).due("bidder(0, 0)", left == 0 ? 20000 : left);
        }
        run.throwsState("undo()");
        run = new Run("The sale before each of the latest 10 changes is kept and can be undone")
                .each(1, 11, "setCredit(0, #)");
        for (int left = 9; left >= 0; left--) {
            run.due("undo()", left).due("bidder(0, 0)", left + 1);
        }
        run.throwsState("undo()");
    }

    /** Changes and undoing in turn, so that the places of the kept sales are all used more than once. */
    private static void manyChanges() {
        for (int changes = 19; changes <= 31; changes++) {
            Run run = new Run("The sale before each of the latest 10 changes is kept and can be undone")
                    .each(1, changes, "setCredit(0, #)");
            for (int left = 9; left >= 4; left--) {
                run.due("undo()", left).due("bidder(0, 0)", changes - 10 + left);
            }
            run.each(101, 107, "setCredit(0, #)");
            for (int left = 9; left >= 0; left--) {
                run.due("undo()", left).due("bidder(0, 0)", left >= 4 ? 97 + left : changes - 9 + left);
            }
            run.throwsState("undo()");
        }
    }

    private static void undoAndChange() {
        new Run("Returns the number of changes that can still be undone.")
                .throwsState("undo()")
                .does("setCredit(0, 1)").due("undo()", 0).throwsState("undo()")
                .does("setCredit(0, 2)").does("setCredit(0, 3)").due("undo()", 1)
                .does("setCredit(0, 4)").due("undo()", 1).due("bidder(0, 0)", 2)
                .due("undo()", 0).due("bidder(0, 0)", 20000)
                .throwsState("undo()");
    }

    private static void whatIsNoPartOfTheSale() {
        new Run("the reason that is kept, the text buffer and the fault position do not belong to it")
                .does("addLot(0, 1, 0)").does("save()").does("open(0)")
                .refused("bid(0, 0, 9)", 3).faulty("ow", 1).text("o")
                .due("undo()", 1).due("refusal()", 3).due("faultPosition()", 1)
                .text("0").due("read()", 1).due("faultPosition()", -1)
                .refused("order(0, 0, 20001)", 8).faulty("o0;", 3).text("h")
                .does("restore()").due("refusal()", 8).due("faultPosition()", 3)
                .text("0").due("read()", 0).due("faultPosition()", -1).due("lot(0, 0)", 0);
    }

    private static void snapshots() {
        new Run("Saves the sale, in place of an earlier snapshot.")
                .throwsState("restore()")
                .does("save()").does("addLot(0, 1, 0)").does("restore()").due("lots(-1)", 0)
                .throwsState("undo()")
                .does("addLot(1, 2, 3)").does("order(0, 4, 50)").does("open(0)").does("save()")
                .does("close(0)").does("setCredit(4, 7)").does("restore()")
                .due("lot(0, 0)", 1).due("bidder(4, 0)", 20000).due("limit(0, 0, 2)", 1)
                .throwsState("undo()")
                // The snapshot is kept: it is restored once more after other changes.
                .does("bid(0, 5, 60)").does("addLot(2, 2, 2)").does("restore()")
                .due("lots(-1)", 1).due("standing(0, 6)", 1)
                .does("restore()").due("lots(-1)", 1).throwsState("undo()");
    }

    private static void noSnapshot() {
        new Run("IllegalStateException if there is no snapshot")
                .throwsState("restore()")
                .times(3, "setCredit(0, 5)")
                .throwsState("restore()")
                .due("undo()", 2)
                .does("save()").does("restore()").throwsState("undo()");
    }

    /** In the places of what was undone stands nothing of it. */
    private static void placesUsedAgain() {
        Run run = new Run("Restores what was saved").does("save()").does("addLot(4, 5, 6)");
        int made = run.length();
        run.does("undo()")
                .does("addLot(1, 2, 300)").does("setRows(2, 700, 70)").does("order(0, 0, 250)").does("order(0, 9, 260)")
                .does("open(0)").does("bid(0, 0, 300)").does("bid(0, 9, 360)").does("close(0)").due("why(0)", 0)
                .does("addLot(3, 3, 3)").does("open(1)")
                .does("restore()").due("seller(1, 4)", 0).due("bidder(9, 4)", 0).due("house(0)", 0)
                .does("addLot(4, 5, 6)").isAsAfter(made)
                .due("open(0)", 0).due("standing(0, 6)", 0);
    }

    /** What was saved comes back also where other lots, bids and events had taken its places. */
    private static void placesTakenByOthers() {
        Run run = new Run("Restores what was saved")
                .does("addLot(4, 5, 6)").does("addLot(3, 1, 50)").does("addLot(2, 7, 0)")
                .does("order(0, 7, 90)").does("open(0)").does("bid(0, 8, 40)").does("close(0)")
                .does("open(1)").does("bid(1, 0, 60)")
                .does("save()");
        run.times(9, "undo()")
                .does("addLot(1, 1, 999)").does("addLot(0, 2, 998)").does("setRows(0, 0, 9)")
                .does("open(1)").does("bid(1, 5, 99)").does("bid(1, 0, 117)").does("open(0)").does("close(0)")
                .does("offer(0, 77)").does("withdraw(0)").does("order(1, 3, 500)").does("addLot(0, 9, 0)")
                .does("restore()")
                .due("lot(0, 0)", 2).due("lot(0, 1)", 4).due("lot(0, 2)", 5).due("lot(0, 3)", 6).due("lot(0, 4)", 1)
                .due("sold(0, false)", 7).due("sold(0, true)", 50).due("why(0)", 0)
                .due("lot(1, 1)", 3).due("limit(1, 0, 0)", 0).due("limit(1, 0, 1)", 60).due("limit(1, 0, 2)", 3)
                .due("standing(1, 6)", 1).due("lot(2, 2)", 7)
                .due("row(0, 1)", 10).due("row(3, 0)", 2000);
        int[][] events = {{0, 0, 7, 90}, {1, 0, -1, 0}, {2, 0, 8, 40}, {3, 0, 7, 50}, {1, 1, -1, 0}, {2, 1, 0, 60}};
        run.due("events(-1)", events.length);
        for (int event = 0; event < events.length; event++) {
            for (int what = 0; what <= 3; what++) {
                run.due("event(" + event + ", " + what + ")", events[event][what]);
            }
        }
    }

    private static void snapshotAndChanges() {
        new Run("restore forgets them")
                .does("addLot(0, 1, 0)").does("save()").times(10, "setCredit(0, 5)")
                .due("undo()", 9)
                .does("restore()").throwsState("undo()").due("bidder(0, 0)", 20000)
                .each(1, 3, "setCredit(0, #)")
                .due("undo()", 2).due("bidder(0, 0)", 2)
                // What was saved is not what undo brings back.
                .does("save()").due("undo()", 1).due("bidder(0, 0)", 1)
                .does("restore()").due("bidder(0, 0)", 2).throwsState("undo()");
    }

    private static void whatTheSaleConsistsOf() {
        Run run = sale("The sale consists of the table, the credits, the lots, the orders and bids with their numbers, "
                + "the accounts, and the ledger");
        int saved = run.length();
        run.does("setRows(0, 0, 3)").does("setCredit(9, 0)").does("open(0)").does("bid(0, 7, 300)").does("close(0)")
                .does("group(1, 2)").does("offer(3, 0)").does("split(3, 4)").does("addLot(5, 1, 5000)")
                .does("open(11)").does("close(11)").does("open(4)").does("bid(4, 0, 3)").does("close(4)")
                .does("restore()")
                .isAsAfter(saved);
    }

    public static void main(String[] args) {
        eachChange();
        changesOfTexts();
        noChanges();
        tenChanges();
        manyChanges();
        undoAndChange();
        whatIsNoPartOfTheSale();
        snapshots();
        noSnapshot();
        placesUsedAgain();
        placesTakenByOthers();
        snapshotAndChanges();
        whatTheSaleConsistsOf();
        Expect.end();
    }
}

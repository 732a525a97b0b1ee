/** The edges of the sentences on the ledger, and of promises 33 to 35. */
public final class EdgesOfLedgerTest {
    private EdgesOfLedgerTest() {
    }

    /** A ledger with so many events, all of them orders of bidder 0 for lot 0. */
    private static Run withEvents(String sentence, int events) {
        return new Run(sentence)
                .does("addLot(0, 1, 0)").does("addLot(1, 1, 500)").does("addLot(2, 1, 500)")
                .each(1, events, "order(0, 0, #)")
                .due("events(-1)", events);
    }

    private static Run event(Run run, int event, int kind, int lot, int bidder, int amount) {
        return run.due("event(" + event + ", 0)", kind).due("event(" + event + ", 1)", lot)
                .due("event(" + event + ", 2)", bidder).due("event(" + event + ", 3)", amount);
    }

    private static void fullLedger() {
        Run run = withEvents("The ledger holds the first 250 of these events, in their order", 248)
                .does("open(0)").due("events(-1)", 249)
                .throwsIndex("event(249, 0)")
                .does("bid(0, 1, 240)").due("events(-1)", 250).due("events(2)", 1)
                .throwsIndex("event(250, 0)");
        event(run, 0, 0, 0, 0, 1);
        event(run, 247, 0, 0, 0, 248);
        event(run, 248, 1, 0, -1, 0);
        event(run, 249, 2, 0, 1, 240);
        // What comes later is done, but not written down.
        run.does("order(0, 0, 300)").due("maximum(0, 0)", 300)
                .does("bid(0, 1, 320)")
                .due("close(0)", 320)
                .due("events(-1)", 250).due("events(0)", 248).due("events(2)", 1).due("events(3)", 0);
        event(run, 249, 2, 0, 1, 240);
    }

    private static void laterEvents() {
        withEvents("Later events than the 250 that are kept do not count for audit and soldShare.", 246)
                .each(0, 2, "open(#)")
                .due("audit()", 0).throwsArithmetic("soldShare()")
                // The 250th event is a sale, and so counts.
                .due("close(0)", 10).due("events(-1)", 250)
                .due("soldShare()", 1.0).due("audit()", 0)
                .due("close(1)", 0).due("soldShare()", 1.0).due("audit()", 1)
                .due("close(2)", 0).due("soldShare()", 1.0).due("audit()", 2)
                .due("undo()", 9).due("audit()", 1)
                .due("undo()", 8).due("audit()", 0)
                .due("undo()", 7).due("events(-1)", 249).due("events(3)", 0);
        withEvents("Later events than the 250 that are kept do not count for audit and soldShare.", 247)
                .each(0, 2, "open(#)")
                .due("close(0)", 10).due("close(1)", 0).due("events(-1)", 250)
                .throwsArithmetic("soldShare()").due("audit()", 2);
    }

    private static void withoutBidderOrAmount() {
        Run run = new Run("Where there is no bidder or amount, they are -1 and 0.")
                .times(4, "addLot(0, 2, 50)").does("addLot(0, 1, 0)").does("addLot(0, 1, 50)")
                .does("open(0)").does("close(0)").does("offer(0, 0)")
                .does("withdraw(1)").does("split(2, 2)").does("group(3, 6)")
                .does("open(4)").does("close(4)");
        event(run, 0, 1, 0, -1, 0);
        event(run, 1, 4, 0, -1, 1);
        event(run, 2, 8, 0, -1, 0);
        event(run, 3, 5, 1, -1, 0);
        event(run, 4, 6, 2, -1, 6);
        event(run, 5, 7, 3, -1, 8);
        event(run, 6, 1, 4, -1, 0);
        event(run, 7, 4, 4, -1, 0);
        run.due("events(-1)", 8);
    }

    private static void withBidderAndAmount() {
        Run run = new Run("each with a kind, a lot, a bidder and an amount")
                .times(2, "addLot(0, 1, 0)").does("setCredit(9, 90000)")
                .does("order(1, 9, 90000)").does("order(1, 0, 1)").does("cancel(1, 0)")
                .does("open(1)").does("bid(1, 0, 20)").does("close(1)");
        event(run, 0, 0, 1, 9, 90000);
        event(run, 1, 0, 1, 0, 1);
        event(run, 2, 9, 1, 0, 1);
        event(run, 3, 1, 1, -1, 0);
        event(run, 4, 2, 1, 0, 20);
        event(run, 5, 3, 1, 9, 30);
        run.due("events(-1)", 6);
    }

    private static void noEvents() {
        new Run("Orders that come from splitting and grouping are no events.")
                .times(2, "addLot(0, 2, 0)").does("setCredit(0, 5)").does("setRows(0, 0, 7)")
                .due("events(-1)", 0)
                .does("order(0, 1, 50)").does("order(1, 1, 50)").due("events(-1)", 2)
                .refused("order(0, 1, 50)", 7).refused("bid(0, 1, 50)", 1)
                .due("events(-1)", 2)
                .does("split(0, 2)").due("orders(-1)", 3).due("events(-1)", 3).due("events(0)", 2)
                .does("group(1, 2)").due("orders(-1)", 2).due("events(-1)", 4).due("events(0)", 2)
                .does("save()").does("restore()").due("events(-1)", 4);
    }

    private static void firstOfBoth() {
        Run run = new Run("for 7, the first one of both lots")
                .times(4, "addLot(0, 1, 0)")
                .does("group(1, 0)").does("group(2, 3)");
        event(run, 0, 7, 1, -1, 4);
        event(run, 1, 7, 2, -1, 5);
    }

    private static void kinds() {
        new Run("the kind of events, or -1 for all")
                .due("events(-1)", 0).throwsArgument("events(-2)").throwsArgument("events(10)")
                .does("addLot(0, 1, 0)").does("order(0, 3, 50)").does("cancel(0, 3)")
                .throwsArgument("events(-2)").due("events(-1)", 2).due("events(0)", 1)
                .due("events(9)", 1).due("events(8)", 0).throwsArgument("events(10)");
    }

    private static void event() {
        new Run("the event, from 0")
                .throwsIndex("event(0, 0)")
                .does("addLot(0, 1, 0)").throwsIndex("event(0, 0)")
                .does("open(0)").does("bid(0, 3, 10)")
                .throwsIndex("event(-1, 0)").due("event(0, 0)", 1)
                .due("event(1, 0)", 2).throwsIndex("event(2, 0)")
                .throwsArgument("event(1, -1)").due("event(1, 3)", 10).throwsArgument("event(1, 4)")
                .throwsIndex("event(2, 4)").throwsIndex("event(-1, -1)")
                .does("undo()").throwsIndex("event(1, 0)");
    }

    private static void auditOfAll() {
        Run run = new Run("the sum of the prices of the lots sold to each bidder, and the fees of each seller")
                .due("audit()", 0);
        for (int i = 0; i < 10; i++) {
            run.does("addLot(" + i % 6 + ", 1, 0)").does("open(" + i + ")").does("bid(" + i + ", " + i + ", 10)")
                    .does("close(" + i + ")");
        }
        for (int i = 10; i < 16; i++) {
            run.does("addLot(" + (i - 10) + ", 1, 50)").does("open(" + i + ")").does("close(" + i + ")");
        }
        run.due("events(3)", 10).due("events(4)", 6).due("audit()", 0);
    }

    private static void auditWithoutEvents() {
        Run run = withEvents("Returns the number of bidders and sellers for whom this differs from their accounts.", 240);
        for (int bidder = 0; bidder < 10; bidder++) {
            int lot = 3 + bidder;
            run.does("addLot(0, 1, 0)").does("open(" + lot + ")").does("bid(" + lot + ", " + bidder + ", 10)");
        }
        for (int bidder = 0; bidder < 10; bidder++) {
            run.does("close(" + (3 + bidder) + ")").due("audit()", bidder + 1);
        }
        for (int seller = 0; seller < 6; seller++) {
            int lot = 13 + seller;
            run.does("addLot(" + seller + ", 1, 50)").does("open(" + lot + ")").does("close(" + lot + ")")
                    .due("audit()", 11 + seller);
        }
        // A fee of 0 makes no difference, nor does a second lot of the same bidder.
        run.does("addLot(0, 1, 0)").does("open(19)").does("bid(19, 0, 10)").does("close(19)").due("audit()", 16);
    }

    public static void main(String[] args) {
        fullLedger();
        laterEvents();
        withoutBidderOrAmount();
        withBidderAndAmount();
        noEvents();
        firstOfBoth();
        kinds();
        event();
        auditOfAll();
        auditWithoutEvents();
        Expect.end();
    }
}

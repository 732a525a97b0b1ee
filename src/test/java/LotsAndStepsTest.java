/** Promises 1 to 9. */
public final class LotsAndStepsTest {
    private static final Class<IllegalArgumentException> ARGUMENT = IllegalArgumentException.class;
    private static final Class<IllegalStateException> STATE = IllegalStateException.class;
    private static final Class<IndexOutOfBoundsException> INDEX = IndexOutOfBoundsException.class;

    private LotsAndStepsTest() {
    }

    private static void newObject() {
        LotSales x = new LotSales();
        Expect.due("lots of a new object", x.lots(-1), 0);
        Expect.due("orders of a new object", x.orders(-1), 0);
        Expect.due("events of a new object", x.events(-1), 0);
        Expect.due("fault position of a new object", x.faultPosition(), -1);
        for (int bidder = 0; bidder < 10; bidder++) {
            Expect.due("credit of " + bidder, x.bidder(bidder, 0), 20000);
        }
        Expect.fails("undo on a new object", STATE, x::undo);
    }

    private static void addLot() {
        LotSales x = new LotSales();
        Expect.due("addLot(0, 1, 0)", x.addLot(0, 1, 0), 0);
        Expect.due("addLot(5, 20, 90000)", x.addLot(5, 20, 90000), 1);
        Expect.due("it waits", x.lot(1, 0), 0);
        Expect.fails("addLot(-1, 1, 0)", ARGUMENT, () -> x.addLot(-1, 1, 0));
        Expect.fails("addLot(6, 1, 0)", ARGUMENT, () -> x.addLot(6, 1, 0));
        Expect.fails("addLot(0, 0, 0)", ARGUMENT, () -> x.addLot(0, 0, 0));
        Expect.fails("addLot(0, 21, 0)", ARGUMENT, () -> x.addLot(0, 21, 0));
        Expect.fails("addLot(0, 1, -1)", ARGUMENT, () -> x.addLot(0, 1, -1));
        Expect.fails("addLot(0, 1, 90001)", ARGUMENT, () -> x.addLot(0, 1, 90001));
        Expect.due("lots after bad ones", x.lots(-1), 2);
        for (int lot = 2; lot < 20; lot++) {
            Expect.due("addLot " + lot, x.addLot(1, 2, 3), lot);
        }
        Expect.fails("the 21st lot", STATE, () -> x.addLot(0, 1, 0));
        Expect.fails("a bad argument of the 21st lot comes first", ARGUMENT, () -> x.addLot(0, 0, 0));
        Expect.due("undo of the 20th", x.undo(), 9);
        Expect.due("the 20th once more", x.addLot(4, 5, 6), 19);
        Expect.due("its seller", x.lot(19, 1), 4);
    }

    private static void lot() {
        LotSales x = new LotSales();
        x.addLot(3, 7, 123);
        int[] want = {0, 3, 7, 123, 0};
        for (int what = 0; what <= 4; what++) {
            Expect.due("lot(0, " + what + ")", x.lot(0, what), want[what]);
        }
        x.open(0);
        Expect.due("state when open", x.lot(0, 0), 1);
        Expect.due("openings", x.lot(0, 4), 1);
        x.close(0);
        Expect.due("state when bought in", x.lot(0, 0), 3);
        x.offer(0, 0);
        x.open(0);
        Expect.due("openings of both times", x.lot(0, 4), 2);
        x.bid(0, 1, 10);
        x.close(0);
        Expect.due("state when sold", x.lot(0, 0), 2);
        x.addLot(0, 4, 0);
        x.withdraw(1);
        Expect.due("state when withdrawn", x.lot(1, 0), 4);
        x.addLot(0, 4, 0);
        x.split(2, 2);
        Expect.due("state when split", x.lot(2, 0), 5);
        x.group(3, 4);
        Expect.due("state of the first when grouped", x.lot(3, 0), 6);
        Expect.due("state of the other when grouped", x.lot(4, 0), 6);
        Expect.fails("lot(-1, 0)", INDEX, () -> x.lot(-1, 0));
        Expect.fails("lot(6, 0)", INDEX, () -> x.lot(6, 0));
        Expect.fails("lot(6, 9)", INDEX, () -> x.lot(6, 9));
        Expect.fails("lot(0, -1)", ARGUMENT, () -> x.lot(0, -1));
        Expect.fails("lot(0, 5)", ARGUMENT, () -> x.lot(0, 5));
    }

    private static void lots() {
        LotSales x = new LotSales();
        for (int i = 0; i < 6; i++) {
            x.addLot(0, 4, 0);
        }
        x.open(0);
        x.open(1);
        x.bid(1, 0, 10);
        x.close(1);
        x.open(2);
        x.close(2);
        x.withdraw(3);
        x.split(4, 2);
        x.group(6, 7);
        int[] want = {2, 1, 1, 1, 1, 1, 2};
        for (int state = 0; state <= 6; state++) {
            Expect.due("lots(" + state + ")", x.lots(state), want[state]);
        }
        Expect.due("lots(-1)", x.lots(-1), 9);
        Expect.fails("lots(-2)", ARGUMENT, () -> x.lots(-2));
        Expect.fails("lots(7)", ARGUMENT, () -> x.lots(7));
    }

    private static void setRows() {
        LotSales x = new LotSales();
        Expect.due("a fifth row", x.setRows(4, 3000, 5000), 5);
        Expect.due("a sixth row", x.setRows(5, 90000, 1), 6);
        Expect.fails("a seventh row", INDEX, () -> x.setRows(6, 90000, 1));
        Expect.fails("a bound too great", ARGUMENT, () -> x.setRows(5, 90001, 1));
        Expect.due("two rows stay", x.setRows(2, 101, 7), 3);
        Expect.due("bound of the third", x.row(2, 0), 101);
        Expect.due("increment of the third", x.row(2, 1), 7);
        Expect.due("bound of the second", x.row(1, 0), 100);
        Expect.fails("more rows than there are", INDEX, () -> x.setRows(4, 5000, 1));
        Expect.fails("a negative number of rows", INDEX, () -> x.setRows(-1, 0, 1));
        Expect.fails("an equal bound", ARGUMENT, () -> x.setRows(3, 101, 1));
        Expect.fails("a lesser bound", ARGUMENT, () -> x.setRows(3, 100, 1));
        Expect.fails("increment 0", ARGUMENT, () -> x.setRows(3, 102, 0));
        Expect.fails("increment 5001", ARGUMENT, () -> x.setRows(3, 102, 5001));
        Expect.fails("a first bound of 1", ARGUMENT, () -> x.setRows(0, 1, 1));
        Expect.fails("a bound of -1", ARGUMENT, () -> x.setRows(0, -1, 1));
        Expect.fails("a great number of rows", INDEX, () -> x.setRows(Integer.MAX_VALUE, 0, 1));
        x.addLot(0, 1, 0);
        x.open(0);
        Expect.fails("rows while a lot is open", STATE, () -> x.setRows(0, 0, 1));
        Expect.fails("a bad argument then", ARGUMENT, () -> x.setRows(0, 0, 0));
        Expect.fails("a bad place then", INDEX, () -> x.setRows(9, 0, 0));
        x.close(0);
        Expect.due("one row", x.setRows(0, 0, 1), 1);
        Expect.fails("the second row is gone", INDEX, () -> x.row(1, 0));
        x.undo();
        Expect.due("undo brings it back", x.row(1, 0), 100);
    }

    private static void row() {
        LotSales x = new LotSales();
        int[][] want = {{0, 10}, {100, 20}, {500, 50}, {2000, 100}};
        for (int row = 0; row < 4; row++) {
            Expect.due("row(" + row + ", 0)", x.row(row, 0), want[row][0]);
            Expect.due("row(" + row + ", 1)", x.row(row, 1), want[row][1]);
        }
        Expect.fails("row(-1, 0)", INDEX, () -> x.row(-1, 0));
        Expect.fails("row(4, 0)", INDEX, () -> x.row(4, 0));
        Expect.fails("row(4, 2)", INDEX, () -> x.row(4, 2));
        Expect.fails("row(0, 2)", ARGUMENT, () -> x.row(0, 2));
        Expect.fails("row(0, -1)", ARGUMENT, () -> x.row(0, -1));
    }

    private static void step() {
        LotSales x = new LotSales();
        int[][] want = {{0, 0}, {9, 0}, {10, 10}, {99, 90}, {100, 100}, {119, 100}, {120, 120}, {499, 480},
            {500, 500}, {549, 500}, {1999, 1950}, {2000, 2000}, {2099, 2000}, {99999, 99900}};
        for (int[] pair : want) {
            Expect.due("step(" + pair[0] + ")", x.step(pair[0]), pair[1]);
        }
        Expect.fails("step(-1)", ARGUMENT, () -> x.step(-1));
        Expect.fails("step(100000)", ARGUMENT, () -> x.step(100000));
        // Steps 4, 8, 12, 22, 32, ..: the bound 9 is passed with 12, so that 9 to 12 hold no other step.
        x.setRows(0, 0, 4);
        x.setRows(1, 9, 10);
        int[][] other = {{3, 0}, {8, 8}, {11, 8}, {12, 12}, {21, 12}, {22, 22}, {99999, 99992}};
        for (int[] pair : other) {
            Expect.due("then step(" + pair[0] + ")", x.step(pair[0]), pair[1]);
        }
        // The first step, 5000, jumps over two rows: 5000, 5003, ..
        x.setRows(0, 0, 5000);
        x.setRows(1, 1, 7);
        x.setRows(2, 4999, 3);
        x.setRows(3, 5003, 100);
        int[][] jump = {{4999, 0}, {5000, 5000}, {5002, 5000}, {5003, 5003}, {5102, 5003}, {5103, 5103}};
        for (int[] pair : jump) {
            Expect.due("at last step(" + pair[0] + ")", x.step(pair[0]), pair[1]);
        }
    }

    private static void stepsOfOne() {
        LotSales x = new LotSales();
        x.setRows(0, 0, 1);
        Expect.due("step(1)", x.step(1), 1);
        Expect.due("step(99999)", x.step(99999), 99999);
        Expect.due("nextStep(0)", x.nextStep(0), 1);
        x.setRows(1, 10, 3);
        Expect.due("step(12)", x.step(12), 10);
        Expect.due("step(13)", x.step(13), 13);
        Expect.due("nextStep(9)", x.nextStep(9), 10);
        Expect.due("nextStep(10)", x.nextStep(10), 13);
    }

    private static void nextStep() {
        LotSales x = new LotSales();
        int[][] want = {{0, 10}, {9, 10}, {10, 20}, {90, 100}, {95, 100}, {100, 120}, {480, 500}, {499, 500},
            {500, 550}, {1950, 2000}, {2000, 2100}, {99899, 99900}, {99999, 100000}};
        for (int[] pair : want) {
            Expect.due("nextStep(" + pair[0] + ")", x.nextStep(pair[0]), pair[1]);
        }
        Expect.fails("nextStep(-1)", ARGUMENT, () -> x.nextStep(-1));
        Expect.fails("nextStep(100000)", ARGUMENT, () -> x.nextStep(100000));
        x.setRows(0, 0, 5000);
        Expect.due("nextStep(99999) with one row", x.nextStep(99999), 100000);
        x.setRows(1, 50, 1);
        Expect.due("nextStep(4999)", x.nextStep(4999), 5000);
        Expect.due("nextStep(5000)", x.nextStep(5000), 5001);
    }

    private static void setCredit() {
        LotSales x = new LotSales();
        Expect.due("setCredit(9, 0)", x.setCredit(9, 0), 20000);
        Expect.due("setCredit(9, 999999)", x.setCredit(9, 999999), 0);
        Expect.due("the credit", x.bidder(9, 0), 999999);
        Expect.due("that of another", x.bidder(8, 0), 20000);
        Expect.fails("setCredit(-1, 0)", INDEX, () -> x.setCredit(-1, 0));
        Expect.fails("setCredit(10, -1)", INDEX, () -> x.setCredit(10, -1));
        Expect.fails("setCredit(0, -1)", ARGUMENT, () -> x.setCredit(0, -1));
        Expect.fails("setCredit(0, 1000000)", ARGUMENT, () -> x.setCredit(0, 1000000));
        Expect.due("the failed ones are no changes", x.undo(), 1);
        Expect.due("undone", x.bidder(9, 0), 0);
    }

    public static void main(String[] args) {
        newObject();
        addLot();
        lot();
        lots();
        setRows();
        row();
        step();
        stepsOfOne();
        nextStep();
        setCredit();
        Expect.end();
    }
}

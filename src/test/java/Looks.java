import java.util.ArrayList;
import java.util.List;
import java.util.function.Supplier;

/**
 * All that can be seen of a sale. Each part is looked at on an object of its own, made anew by the same calls: so
 * that no object is used for more than 512 calls, and so that undo, restore and read can be looked at too.
 */
final class Looks {
    /** So many calls at most has a part of the looks. */
    static final int CALLS = 250;

    private static final int EVENTS_AT_ONCE = 60;
    private static final int PLACES = 62;

    private final Supplier<LotSales> maker;
    private final List<String> seen = new ArrayList<>();
    private LotSales x;

    private Looks(Supplier<LotSales> maker) {
        this.maker = maker;
    }

    /** What is seen, a line a call. */
    static List<String> of(Supplier<LotSales> maker) {
        Looks looks = new Looks(maker);
        int lots = looks.fresh().lots(-1);
        for (int lot = 0; lot < lots; lot++) {
            looks.lot(lot);
        }
        looks.tableAndCounts();
        looks.people();
        looks.ledger();
        looks.nextNumber();
        looks.changes();
        looks.snapshot();
        looks.text();
        return looks.seen;
    }

    private LotSales fresh() {
        x = maker.get();
        return x;
    }

    private void look(String name, Object... arguments) {
        StringBuilder line = new StringBuilder(name);
        for (Object argument : arguments) {
            line.append(' ').append(argument);
        }
        seen.add(line.append(" = ").append(Calls.answer(x, name, arguments)).toString());
    }

    private void lot(int lot) {
        fresh();
        for (int what = 0; what <= 4; what++) {
            look("lot", lot, what);
        }
        look("orders", lot);
        look("why", lot);
        look("sold", lot, true);
        look("sold", lot, false);
        for (int bidder = 0; bidder < 10; bidder++) {
            look("maximum", lot, bidder);
            for (int what = 0; what <= 2; what++) {
                look("limit", lot, bidder, what);
            }
        }
        for (int what = 0; what <= 6; what++) {
            look("standing", lot, what);
        }
    }

    private void tableAndCounts() {
        fresh();
        for (int row = 0; row < 6; row++) {
            look("row", row, 0);
            look("row", row, 1);
        }
        for (int state = -1; state <= 6; state++) {
            look("lots", state);
        }
        for (int kind = -1; kind <= 9; kind++) {
            look("events", kind);
        }
        for (int what = 0; what <= 3; what++) {
            look("house", what);
        }
        look("orders", -1);
        look("soldShare");
        look("audit");
        look("refusal");
        look("faultPosition");
    }

    private void people() {
        fresh();
        for (int what = 0; what <= 6; what++) {
            for (int bidder = 0; bidder < 10; bidder++) {
                look("bidder", bidder, what);
            }
        }
        for (int what = 0; what <= 5; what++) {
            for (int seller = 0; seller < 6; seller++) {
                look("seller", seller, what);
            }
        }
    }

    private void ledger() {
        int events = fresh().events(-1);
        for (int event = 0; event < events; event++) {
            if (event % EVENTS_AT_ONCE == 0) {
                fresh();
            }
            for (int what = 0; what <= 3; what++) {
                look("event", event, what);
            }
        }
    }

    /** The number that the next order would get, seen on a lot that can have one. */
    private void nextNumber() {
        fresh();
        look("setCredit", 0, 999999);
        look("addLot", 0, 1, 0);
        for (int lot = 0; lot < 20; lot++) {
            look("open", lot);
            look("order", lot, 0, 90000);
            look("limit", lot, 0, 2);
        }
    }

    private void changes() {
        fresh();
        for (int change = 0; change <= 10; change++) {
            look("undo");
            sale();
        }
    }

    private void snapshot() {
        fresh();
        look("restore");
        sale();
        look("undo");
    }

    private void sale() {
        look("lots", -1);
        look("lots", 0);
        look("orders", -1);
        look("events", -1);
        look("row", 0, 1);
        look("bidder", 0, 0);
        look("bidder", 9, 0);
        look("bidder", 1, 5);
        look("house", 0);
    }

    private void text() {
        fresh();
        look("read");
        look("faultPosition");
        look("events", -1);
        fresh();
        for (int place = 0; place < PLACES; place++) {
            look("append", 'x');
        }
        look("read");
        look("faultPosition");
    }
}

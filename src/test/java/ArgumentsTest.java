import java.util.ArrayList;
import java.util.List;
import java.util.Set;

/**
 * Each call with all mixtures of arguments inside, at and outside their edges, on sales that are empty, ordinary and
 * full: it answers as the model does, and leaves everything as it was if it throws or only looks.
 */
public final class ArgumentsTest {
    private static final int LEAST = Integer.MIN_VALUE;
    private static final int MOST = Integer.MAX_VALUE;

    private static final int[] SELLERS = {LEAST, -1, 0, 1, 5, 6, MOST};
    private static final int[] BIDDERS = {LEAST, -1, 0, 1, 2, 9, 10, MOST};
    private static final int[] KINDS = {LEAST, -2, -1, 0, 1, 2, 3, 4, 5, 6, 7, 8, 9, 10, MOST};
    private static final int[] QUANTITIES = {LEAST, -1, 0, 1, 20, 21, MOST};
    private static final int[] RESERVES = {LEAST, -1, 0, 1, 49, 50, 499, 500, 90000, 90001, MOST};
    private static final int[] CREDITS = {LEAST, -1, 0, 1, 999999, 1000000, MOST};
    private static final int[] AMOUNTS = {LEAST, -1, 0, 1, 9, 10, 11, 100, 120, 121, 20000, 20001, 90000, 90001, 99900,
        99999, 100000, MOST};
    private static final int[] BOUNDS = {LEAST, -1, 0, 1, 2000, 2001, 90000, 90001, MOST};
    private static final int[] INCREMENTS = {LEAST, -1, 0, 1, 5000, 5001, MOST};
    private static final int[] ROWS = {LEAST, -1, 0, 1, 3, 4, 5, 6, 7, MOST};
    private static final int[] PARTS = {LEAST, -1, 0, 1, 2, 3, 4, 5, MOST};
    private static final int[] YES_OR_NO = {0, 1};

    private static final Set<String> CHANGES = Set.of("addLot", "setRows", "setCredit", "order", "cancel", "open",
            "bid", "close", "withdraw", "offer", "split", "group");

    private final String name;
    private final String[] sale;
    private final boolean looksAtAll;
    private final List<String> before;
    private final int[] lots;
    private Model model;

    private ArgumentsTest(String name, boolean looksAtAll, String... sale) {
        this.name = name;
        this.sale = sale;
        this.looksAtAll = looksAtAll;
        before = Looks.of(this::made);
        int count = made().lots(-1);
        lots = new int[Math.min(count, 12) + 4];
        for (int i = 0; i < lots.length; i++) {
            lots[i] = i - 2;
        }
        lots[0] = LEAST;
        lots[lots.length - 2] = count;
        lots[lots.length - 1] = MOST;
        model = modelled();
    }

    private LotSales made() {
        LotSales x = new LotSales();
        for (String call : sale) {
            Calls.answer(x, call);
        }
        return x;
    }

    private Model modelled() {
        Model m = new Model();
        for (String call : sale) {
            Object answer = Calls.answer(m, call);
            if (!(answer instanceof Number) && !answer.equals("nothing")) {
                Expect.fault(name + ": " + call + " threw " + answer);
            }
        }
        return m;
    }

    /** The call with each mixture of one argument of each list. */
    private void all(String call, int[]... arguments) {
        int mixtures = 1;
        for (int[] values : arguments) {
            mixtures *= values.length;
        }
        Object[] chosen = new Object[arguments.length];
        for (int mixture = 0; mixture < mixtures; mixture++) {
            int rest = mixture;
            for (int i = 0; i < arguments.length; i++) {
                int value = arguments[i][rest % arguments[i].length];
                chosen[i] = arguments[i] == YES_OR_NO ? (Object) (value == 1) : (Object) value;
                rest /= arguments[i].length;
            }
            one(call, chosen);
        }
    }

    private void one(String call, Object[] arguments) {
        StringBuilder told = new StringBuilder(name).append(": ").append(call);
        for (Object argument : arguments) {
            told.append(' ').append(argument);
        }
        Object got = Calls.answer(made(), call, arguments);
        Object want = Calls.answer(model, call, arguments);
        Expect.due(told + " answered " + got + ", due is " + want, got.equals(want) ? 1 : 0, 1);
        boolean isRefused = want.equals("UnsupportedOperationException");
        boolean isChange = CHANGES.contains(call) && want instanceof Number;
        if (isRefused || isChange) {
            model = modelled();
        }
        if (looksAtAll && !isChange) {
            leavesAll(told.toString(), call, arguments, isRefused);
        }
    }

    private void leavesAll(String told, String call, Object[] arguments, boolean isRefused) {
        List<String> after = Looks.of(() -> {
            LotSales x = made();
            Calls.answer(x, call, arguments);
            return x;
        });
        List<String> changed = new ArrayList<>();
        for (int i = 0; i < before.size() && i < after.size(); i++) {
            boolean isReason = isRefused && before.get(i).startsWith("refusal");
            if (!isReason && !before.get(i).equals(after.get(i))) {
                changed.add(before.get(i) + " became " + after.get(i));
            }
        }
        if (before.size() != after.size() || !changed.isEmpty()) {
            Expect.fault(told + " changed " + changed);
        }
    }

    private void allCalls() {
        all("addLot", SELLERS, QUANTITIES, RESERVES);
        all("lot", lots, KINDS);
        all("lots", KINDS);
        all("setRows", ROWS, BOUNDS, INCREMENTS);
        all("row", ROWS, KINDS);
        all("step", AMOUNTS);
        all("nextStep", AMOUNTS);
        all("setCredit", BIDDERS, CREDITS);
        all("order", lots, BIDDERS, AMOUNTS);
        all("cancel", lots, BIDDERS);
        all("maximum", lots, BIDDERS);
        all("orders", lots);
        all("open", lots);
        all("bid", lots, BIDDERS, AMOUNTS);
        all("refusal");
        all("wouldRefuse", YES_OR_NO, lots, BIDDERS, AMOUNTS);
        all("standing", lots, KINDS);
        all("limit", lots, new int[] {LEAST, -1, 0, 1, 2, 9, 10, MOST}, new int[] {LEAST, -1, 0, 1, 2, 3, MOST});
        all("priceIf", lots, BIDDERS, AMOUNTS);
        all("close", lots);
        all("withdraw", lots);
        all("offer", lots, RESERVES);
        all("split", lots, PARTS);
        all("group", lots, lots);
        all("why", lots);
        all("sold", lots, YES_OR_NO);
        all("premium", AMOUNTS);
        all("bidder", BIDDERS, KINDS);
        all("seller", SELLERS, KINDS);
        all("house", KINDS);
        all("soldShare");
        all("events", KINDS);
        all("event", new int[] {LEAST, -1, 0, 1, 2, 16, 17, 18, MOST}, KINDS);
        all("audit");
        all("faultPosition");
    }

    private static void emptySale() {
        new ArgumentsTest("an empty sale", true).allCalls();
    }

    /** A lot of each state: 0 and 1 waiting, 2 and 3 open, then sold, bought in, withdrawn, split and grouped. */
    private static void ordinarySale() {
        new ArgumentsTest("an ordinary sale", true, "addLot(0, 3, 100)", "addLot(0, 4, 50)", "addLot(0, 1, 500)",
                "addLot(1, 1, 0)", "addLot(0, 2, 50)", "addLot(0, 2, 500)", "addLot(1, 2, 0)", "addLot(0, 2, 1)",
                "addLot(0, 1, 0)", "order(0, 0, 120)", "order(0, 1, 20000)", "order(2, 1, 100)", "order(3, 2, 110)",
                "open(2)", "open(3)", "bid(3, 1, 90)", "open(4)", "bid(4, 2, 100)", "close(4)", "open(5)", "close(5)",
                "withdraw(6)", "split(7, 2)", "group(8, 9)", "setCredit(9, 0)").allCalls();
    }

    private static void sellingSale() {
        new ArgumentsTest("a sale with steps of 1", false, "setRows(0, 0, 1)", "addLot(0, 20, 90000)",
                "addLot(0, 20, 500)", "addLot(0, 1, 10)", "setCredit(0, 999999)", "setCredit(1, 999999)",
                "setCredit(2, 9)", "order(0, 0, 90000)", "open(0)", "bid(0, 1, 90001)", "order(1, 2, 9)", "open(2)",
                "bid(2, 0, 9)").allCalls();
    }

    private static void fullSale() {
        List<String> calls = new ArrayList<>();
        calls.add("setRows(4, 89999, 5000)");
        calls.add("setRows(5, 90000, 1)");
        for (int lot = 0; lot < 20; lot++) {
            calls.add("addLot(" + lot % 2 + ", " + (1 + lot % 5) + ", 100)");
        }
        for (int order = 0; order < 40; order++) {
            calls.add("order(" + order / 10 + ", " + order % 10 + ", " + (100 + order) + ")");
        }
        calls.add("open(0)");
        calls.add("open(5)");
        calls.add("close(5)");
        new ArgumentsTest("a full sale", false, calls.toArray(new String[0])).allCalls();
    }

    public static void main(String[] args) {
        emptySale();
        ordinarySale();
        sellingSale();
        fullSale();
        Expect.end();
    }
}

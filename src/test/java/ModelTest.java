import java.util.ArrayList;
import java.util.Arrays;
import java.util.List;

/** Long runs of calls, the same ones each time, on LotSales and on the model of the document. */
public final class ModelTest {
    private static final int RUNS = 2500;
    private static final int CALLS = 512;

    private static final String[] CHANGES = {"addLot", "order", "order", "order", "order", "order", "cancel",
        "open", "open", "open", "bid", "bid", "bid", "bid", "bid", "bid", "close", "close", "withdraw", "offer",
        "offer", "split", "group", "setCredit", "setRows", "read", "undo", "save", "restore"};
    private static final String[] LOOKS = {"lot", "lots", "row", "step", "nextStep", "maximum", "orders",
        "refusal", "wouldRefuse", "standing", "limit", "priceIf", "why", "sold", "premium", "bidder", "seller",
        "house", "soldShare", "events", "event", "audit", "faultPosition"};

    private long seed;
    private final LotSales real = new LotSales();
    private final Model model = new Model();
    private final List<String> told = new ArrayList<>();
    private final int run;
    // Each run has a style of its own: some keep many lots open, some hardly ever throw, some never undo.
    private final int wildness;
    private final int changeShare;
    private final boolean undoes;
    private final boolean closes;
    private boolean isWrong;

    private ModelTest(int run) {
        this.run = run;
        seed = run * 7919L + 17;
        wildness = new int[] {2, 10, 40}[below(3)];
        changeShare = new int[] {50, 90, 100}[below(3)];
        undoes = below(2) == 0;
        closes = below(4) != 0;
    }

    private int below(int bound) {
        seed = seed * 6364136223846793005L + 1442695040888963407L;
        return (int) ((seed >>> 33) % bound);
    }

    private boolean chance(int percent) {
        return below(100) < percent;
    }

    private int oneOf(int... values) {
        return values[below(values.length)];
    }

    private int around(int least, int most) {
        if (chance(wildness)) {
            return oneOf(least - 1, least, most, most + 1, Integer.MIN_VALUE, Integer.MAX_VALUE);
        }
        return least + below(most - least + 1);
    }

    private int lot() {
        return around(0, Math.max(0, model.lots(-1) - 1));
    }

    /** Mostly a lot in the state, if there is one. */
    private int lotIn(int state) {
        if (chance(wildness)) {
            return lot();
        }
        int count = model.lots(-1);
        int start = below(20);
        for (int i = 0; i < count; i++) {
            if (model.lot((start + i) % count, 0) == state) {
                return (start + i) % count;
            }
        }
        return lot();
    }

    private int bidder() {
        return around(0, 9);
    }

    private int amount() {
        switch (below(8)) {
            case 0:
                return oneOf(0, 1, 89999, 90000, 90001, 99999, 100000, -1);
            case 1:
                return 1 + below(90000);
            case 2:
                return 1 + below(9);
            case 3:
                return model.step(below(100000));
            default:
                return 1 + below(3000);
        }
    }

    /** Mostly an amount near the ask of the lot. */
    private int amountOn(int lot) {
        if (chance(wildness) || lot < 0 || lot >= model.lots(-1) || model.lot(lot, 0) != 1) {
            return amount();
        }
        int ask = model.standing(lot, 2);
        switch (below(6)) {
            case 0:
                return ask + oneOf(-10, -1, 1, 7);
            case 1:
                return model.step(Math.min(99999, ask + below(2000)));
            case 2:
                return model.nextStep(Math.min(99999, ask));
            case 3:
                return model.standing(lot, 4) + oneOf(-20, 0, 0, 20);
            default:
                return ask;
        }
    }

    private int reserve() {
        return oneOf(0, 0, 1 + below(300), 1 + below(3000), below(90001), amount());
    }

    private Object[] argumentsOf(String name) {
        switch (name) {
            case "addLot":
                return list(around(0, chance(50) ? 1 : 5), around(1, 20), reserve());
            case "lot":
                return list(lot(), around(0, 4));
            case "lots":
                return list(around(-1, 6));
            case "setRows":
                return list(around(0, 6), chance(40) ? 0 : oneOf(1, 50, 100, below(90002), below(1000)),
                        oneOf(0, 1, 5000, 5001, 1 + below(5000), 1 + below(50)));
            case "row":
                return list(around(0, 5), around(0, 1));
            case "step":
            case "nextStep":
                return list(chance(50) ? amount() : around(0, 99999));
            case "premium":
                return list(oneOf(0, 3, 4, 999, 1000, 1001, 4999, 5000, 5001, 5009, around(0, 99999)));
            case "setCredit":
                return list(bidder(), oneOf(0, 500, 20000, 999999, 1000000, -1, below(100000)));
            case "order":
                int ordered = chance(70) ? lotIn(0) : lotIn(1);
                return list(ordered, bidder(), chance(30) ? amountOn(ordered) : amount());
            case "cancel":
                return list(lotIn(0), bidder());
            case "maximum":
                return list(lot(), bidder());
            case "orders":
                return list(chance(20) ? -1 : lot());
            case "open":
            case "withdraw":
                return list(lotIn(0));
            case "bid":
                int lot = lotIn(1);
                return list(lot, bidder(), amountOn(lot));
            case "wouldRefuse":
                boolean isOrder = chance(50);
                int asked = lotIn(chance(60) ? 1 : 0);
                return new Object[] {isOrder, asked, bidder(), amountOn(asked)};
            case "standing":
                return list(lotIn(1), around(0, 6));
            case "limit":
                return list(lotIn(1), around(0, 4), around(0, 2));
            case "priceIf":
                int open = lotIn(1);
                return list(open, bidder(), amountOn(open));
            case "close":
                return list(lotIn(1));
            case "offer":
                int back = lotIn(3);
                return list(back, back >= 0 && back < model.lots(-1) && chance(80)
                        ? Math.max(0, model.lot(back, 3) - oneOf(0, 1, 10, 100, 1000)) : reserve());
            case "split":
                return list(lotIn(0), around(2, 4));
            case "group":
                return list(lotIn(0), lotIn(0));
            case "why":
                return list(chance(50) ? lotIn(3) : lot());
            case "sold":
                return new Object[] {lotIn(2), chance(50)};
            case "bidder":
                return list(bidder(), around(0, 6));
            case "seller":
                return list(around(0, 5), around(0, 5));
            case "house":
                return list(around(0, 3));
            case "events":
                return list(around(-1, 9));
            case "event":
                return list(around(0, Math.max(0, model.events(-1) - 1)), around(0, 3));
            default:
                return list();
        }
    }

    private static Object[] list(Object... arguments) {
        return arguments;
    }

    private String number(int value) {
        String digits = Integer.toString(Math.max(0, value));
        return chance(20) && digits.length() < 5 ? "0" + digits : digits;
    }

    private String command() {
        switch (below(6)) {
            case 0:
                return "o" + number(lotIn(0));
            case 1:
                return "h" + number(lotIn(1));
            case 2:
                return (chance(20) ? "w" : "o") + number(lotIn(0));
            case 3:
                int lot = lotIn(1);
                return "b" + number(lot) + "," + number(bidder()) + "," + number(amountOn(lot));
            case 4:
                return "a" + number(lotIn(0)) + "," + number(bidder()) + "," + number(amount());
            default:
                return "c" + number(lotIn(0)) + "," + number(bidder());
        }
    }

    private void appendText() {
        StringBuilder text = new StringBuilder(command());
        while (chance(60)) {
            text.append(';').append(command());
        }
        if (chance(30)) {
            int place = below(text.length() + 1);
            text.insert(place, "ohwbac;,0159 x\u00e9\uffff/:".charAt(below(18)));
        }
        if (chance(15)) {
            text.setLength(below(text.length()));
        }
        for (int i = 0; i < text.length(); i++) {
            compare("append", new Object[] {text.charAt(i)});
        }
    }

    private void compare(String name, Object[] arguments) {
        String call = name + Arrays.toString(arguments);
        Object got = Calls.answer(real, name, arguments);
        Object want = Calls.answer(model, name, arguments);
        told.add(call + " " + want);
        if (!got.equals(want) && !isWrong) {
            isWrong = true;
            Expect.fault("run " + run + ": " + call + " answered " + got + ", due is " + want);
            for (String line : told) {
                System.out.println("    " + line);
            }
        }
    }

    /** Looks at everything that can be looked at. */
    private void compareAll() {
        for (int lot = 0; lot < model.lots(-1); lot++) {
            for (int what = 0; what <= 4; what++) {
                same("lot " + lot + " " + what, real.lot(lot, what), model.lot(lot, what));
            }
            for (int bidder = 0; bidder < 10; bidder++) {
                compare("maximum", list(lot, bidder));
            }
            compare("why", list(lot));
            compare("sold", list(lot, true));
            compare("sold", list(lot, false));
            for (int what = 0; what <= 6; what++) {
                compare("standing", list(lot, what));
            }
            for (int rank = -1; rank <= 10; rank++) {
                compare("limit", list(lot, rank, 0));
                compare("limit", list(lot, rank, 1));
                compare("limit", list(lot, rank, 2));
            }
        }
        for (int what = 0; what <= 6; what++) {
            for (int bidder = 0; bidder < 10; bidder++) {
                compare("bidder", list(bidder, what));
            }
            for (int seller = 0; seller < 6; seller++) {
                compare("seller", list(seller, what));
            }
            compare("house", list(what));
            compare("row", list(what, 0));
            compare("row", list(what, 1));
            compare("lots", list(what - 1));
        }
        for (int event = 0; event < model.events(-1); event++) {
            for (int what = 0; what <= 3; what++) {
                same("event " + event + " " + what, real.event(event, what), model.event(event, what));
            }
        }
        compare("orders", list(-1));
        compare("audit", list());
        compare("soldShare", list());
    }

    private void same(String call, int got, int want) {
        if (got != want && !isWrong) {
            isWrong = true;
            Expect.fault("run " + run + ": " + call + " is " + got + ", due is " + want);
        }
    }

    private void play() {
        for (int call = 0; call < CALLS && !isWrong; call++) {
            String name = chance(changeShare) ? CHANGES[below(CHANGES.length)] : LOOKS[below(LOOKS.length)];
            boolean isBack = name.equals("undo") || name.equals("restore");
            if (isBack && (!undoes || chance(name.equals("restore") ? 90 : 50))) {
                continue;
            }
            if (!closes && (name.equals("close") || name.equals("withdraw")) && chance(90)) {
                continue;
            }
            if (name.equals("setRows") && chance(50)) {
                continue;
            }
            if (name.equals("read") && chance(95)) {
                appendText();
            }
            compare(name, argumentsOf(name));
            if (call % 128 == 127) {
                compareAll();
            }
        }
        Expect.due("run " + run + " is as the model's", isWrong ? 1 : 0, 0);
    }

    public static void main(String[] args) {
        for (int run = 0; run < RUNS; run++) {
            new ModelTest(run).play();
        }
        Expect.end();
    }
}

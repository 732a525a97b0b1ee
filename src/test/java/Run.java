import java.util.ArrayList;
import java.util.List;
import java.util.Objects;

/**
 * A run of calls on a new object, for one sentence of the document. Each call is made on LotSales and on the model,
 * and both must answer what is due; of a call that throws it is looked at too that it leaves everything as it was.
 */
final class Run {
    /** What the document promises for an object ends with so many calls. */
    private static final int PROMISED_CALLS = 512;

    private final String sentence;
    private final List<String> calls = new ArrayList<>();
    private final LotSales real = new LotSales();
    private final Model model = new Model();

    /** The sentence as the document has it; behind it, in brackets, what else tells the run from others. */
    Run(String sentence) {
        this.sentence = sentence;
        int bracket = sentence.indexOf(" [");
        if (!Page.isSaid(bracket < 0 ? sentence : sentence.substring(0, bracket))) {
            Expect.fault("the document does not say '" + sentence + "'");
        }
    }

    // Calls that throw nothing.

    Run due(String call, double want) {
        Object wanted = make(call);
        if (!(wanted instanceof Number) || ((Number) wanted).doubleValue() != want) {
            Expect.fault(told(call) + " is " + want + " by hand, and " + wanted + " for the model");
        }
        return this;
    }

    /** A call whose answer is the model's. */
    Run does(String call) {
        Object wanted = make(call);
        if (!(wanted instanceof Number) && !wanted.equals("nothing")) {
            Expect.fault(told(call) + " threw " + wanted);
        }
        return this;
    }

    Run times(int times, String... calls) {
        for (int i = 0; i < times; i++) {
            for (String call : calls) {
                does(call);
            }
        }
        return this;
    }

    /** The call once for each number from least to most, which stands where the call has a #. */
    Run each(int least, int most, String call) {
        for (int number = least; number <= most; number++) {
            does(call.replace("#", Integer.toString(number)));
        }
        return this;
    }

    /** What the ledger holds of an event. */
    Run event(int event, int kind, int lot, int bidder, int amount) {
        String call = "event(" + event + ", ";
        return due(call + "0)", kind).due(call + "1)", lot).due(call + "2)", bidder).due(call + "3)", amount);
    }

    /** After the snapshot was restored the call is the one change that can be undone. */
    Run change(String call) {
        does("restore()");
        int before = length();
        return does(call).due("undo()", 0).isAsAfter(before);
    }

    /** Appends the text, a character a call. */
    Run text(String text) {
        for (char c : text.toCharArray()) {
            does("append(" + (int) c + ")");
        }
        return this;
    }

    Run reads(String text, int want) {
        return text(text).due("read()", want).due("faultPosition()", -1);
    }

    Run faulty(String text, int position) {
        text(text);
        // The buffer and the fault position are those parts of the state that a read with a fault changes.
        throwsOnly("read()", "IllegalArgumentException");
        leaves("read()", "faultPosition", "read", "append");
        return due("faultPosition()", position);
    }

    // Calls that throw.

    Run throwsIndex(String call) {
        return fails(call, "IndexOutOfBoundsException");
    }

    Run throwsArgument(String call) {
        return fails(call, "IllegalArgumentException");
    }

    Run throwsState(String call) {
        return fails(call, "IllegalStateException");
    }

    Run throwsElement(String call) {
        return fails(call, "NoSuchElementException");
    }

    Run throwsArithmetic(String call) {
        return fails(call, "ArithmeticException");
    }

    /** An order or a bid that is refused: the reason is kept, and nothing else is changed. */
    Run refused(String call, int reason) {
        throwsOnly(call, "UnsupportedOperationException");
        leaves(call, "refusal");
        return due("refusal()", reason);
    }

    private Run fails(String call, String want) {
        throwsOnly(call, want);
        leaves(call);
        return this;
    }

    private void throwsOnly(String call, String want) {
        Object wanted = make(call);
        if (!wanted.equals(want)) {
            Expect.fault(told(call) + " throws " + want + " by hand, and is " + wanted + " for the model");
        }
    }

    // What stays as it was.

    /** The latest call left everything as it was, but for the answers of the calls named. */
    private void leaves(String call, String... changed) {
        List<String> before = calls.subList(0, calls.size() - 1);
        if (calls.size() + Looks.CALLS > PROMISED_CALLS) {
            Expect.fault(told(call) + " comes too late to look at all");
        }
        compare(call, Looks.of(() -> again(before)), Looks.of(() -> again(calls)), changed);
    }

    /** What can be seen now is what could be seen after the first so many calls. */
    Run isAsAfter(int first) {
        compare(first + " calls", Looks.of(() -> again(calls.subList(0, first))), Looks.of(() -> again(calls)));
        return this;
    }

    int length() {
        return calls.size();
    }

    private void compare(String what, List<String> before, List<String> after, String... changed) {
        Expect.due(told(what) + ": what can be seen", after.size(), before.size());
        for (int i = 0; i < Math.min(before.size(), after.size()); i++) {
            if (!Objects.equals(before.get(i), after.get(i)) && !isOneOf(changed, before.get(i))) {
                Expect.fault(told(what) + " changed " + before.get(i) + " to " + after.get(i));
                return;
            }
        }
    }

    private static boolean isOneOf(String[] names, String line) {
        for (String name : names) {
            if (line.startsWith(name + " ")) {
                return true;
            }
        }
        return false;
    }

    private static LotSales again(List<String> calls) {
        LotSales x = new LotSales();
        for (String call : calls) {
            Calls.answer(x, call);
        }
        return x;
    }

    private Object make(String call) {
        calls.add(call);
        if (calls.size() > PROMISED_CALLS) {
            Expect.fault(told(call) + " is beyond the calls that are promised");
        }
        Object got = Calls.answer(real, call);
        Object want = Calls.answer(model, call);
        Expect.due(told(call) + " answered " + got + ", due is " + want, got.equals(want) ? 1 : 0, 1);
        return want;
    }

    private String told(String call) {
        return "'" + sentence + "' " + call;
    }
}

import java.nio.charset.StandardCharsets;

/** What the tests share: an answer that is not the one due is printed and counted. */
final class Checks {
    static final String INDEX = "IndexOutOfBoundsException";
    static final String ARGUMENT = "IllegalArgumentException";
    static final String FULL = "UnsupportedOperationException";
    static final String ELEMENT = "NoSuchElementException";

    static final int TOWN = 0;
    static final int LAKE = 1;
    static final int WELL = 2;
    static final int MARKET = 3;

    private static int wrong = 0;
    private static int made = 0;

    private Checks() {
    }

    interface Call {
        void run();
    }

    static void due(String what, long got, long want) {
        made++;
        if (got != want) {
            wrong++;
            System.out.println(what + " answered " + got + ", due is " + want);
        }
    }

    static void due(String what, boolean got, boolean want) {
        due(what, got ? 1 : 0, want ? 1 : 0);
    }

    static void due(String what, String got, String want) {
        made++;
        if (!got.equals(want)) {
            wrong++;
            System.out.println(what + " answered " + got + ", due is " + want);
        }
    }

    /** The call must throw the exception of just this name. */
    static void dueThrow(String what, String name, Call call) {
        due(what + " throws", thrownBy(call), name);
    }

    /** As dueThrow, and all that can be asked of the object must be as it was. */
    static void dueThrowAndStay(SaltCaravans x, String what, String name, Call call) {
        String before = picture(x);
        dueThrow(what, name, call);
        due(what + " leaves behind", picture(x), before);
    }

    interface Ask {
        long of(SaltCaravans x);
    }

    /** What the call answers, or the name of what it throws. */
    static String answer(SaltCaravans x, Ask ask) {
        try {
            return Long.toString(ask.of(x));
        } catch (RuntimeException e) {
            return e.getClass().getSimpleName();
        }
    }

    static String thrownBy(Call call) {
        try {
            call.run();
        } catch (RuntimeException e) {
            return e.getClass().getSimpleName();
        }
        return "nothing";
    }

    /** All that can be asked without a change, but for fault(), which tells of a call that threw. */
    static String picture(SaltCaravans x) {
        StringBuilder text = new StringBuilder();
        for (int i = 0; i < 12; i++) {
            text.append(x.count(i)).append(' ');
        }
        int stations = (int) x.count(1);
        int caravans = (int) x.count(3);
        for (int s = 0; s < stations; s++) {
            for (int what = 0; what < 4; what++) {
                text.append(x.look(s, what)).append(' ');
            }
            for (int t = 0; t < stations; t++) {
                text.append(x.lost(s, t)).append(' ');
            }
        }
        for (int c = 0; c < caravans; c++) {
            for (int what = 0; what < 8; what++) {
                text.append(x.state(c, what)).append(' ');
            }
            for (int s = 0; s < stations; s++) {
                text.append(x.knows(c, s, false)).append(' ').append(x.knows(c, s, true)).append(' ');
            }
        }
        for (int e = 0; e < (int) x.count(9); e++) {
            for (int what = 0; what < 5; what++) {
                text.append(x.entry(e, what)).append(' ');
            }
        }
        return text.toString();
    }

    /** All of state(), in the order of what. */
    static void dueState(String when, SaltCaravans x, int caravan, int... want) {
        for (int what = 0; what < want.length; what++) {
            due(when + ": state " + what + " of caravan " + caravan, x.state(caravan, what), want[what]);
        }
    }

    /** All of entry(), in the order of what. */
    static void dueEntry(SaltCaravans x, int entry, int... want) {
        for (int what = 0; what < want.length; what++) {
            due("entry " + entry + " what " + what, x.entry(entry, what), want[what]);
        }
    }

    /** Puts a text on an empty tape. */
    static void feedText(SaltCaravans x, String text) {
        byte[] bytes = text.getBytes(StandardCharsets.ISO_8859_1);
        for (int i = 0; i < bytes.length; i += 20) {
            x.feed(number(bytes, i), number(bytes, i + 4), number(bytes, i + 8), number(bytes, i + 12),
                    number(bytes, i + 16));
        }
        x.end(bytes.length);
    }

    private static int number(byte[] bytes, int from) {
        int number = 0;
        for (int i = from; i < from + 4; i++) {
            number = number << 8 | (i < bytes.length ? bytes[i] & 255 : 0);
        }
        return number;
    }

    static int giveOrders(SaltCaravans x, int caravan, String text) {
        feedText(x, text);
        return x.orders(caravan);
    }

    static int giveContract(SaltCaravans x, int caravan, String text) {
        feedText(x, text);
        return x.contract(caravan);
    }

    static void dueOrders(SaltCaravans x, String text, int want) {
        due("orders \"" + text + "\"", giveOrders(x, 0, text), want);
        due("fault of \"" + text + "\"", x.fault(), SaltCaravans.NONE);
    }

    static void dueContract(SaltCaravans x, String text, int want) {
        due("contract \"" + text + "\"", giveContract(x, 0, text), want);
        due("fault of \"" + text + "\"", x.fault(), SaltCaravans.NONE);
    }

    static void dueOrdersFault(SaltCaravans x, String text, int want) {
        feedText(x, text);
        dueThrow("orders \"" + text + "\"", ARGUMENT, () -> x.orders(0));
        due("fault of \"" + text + "\"", x.fault(), want);
    }

    static void dueContractFault(SaltCaravans x, String text, int want) {
        feedText(x, text);
        dueThrow("contract \"" + text + "\"", ARGUMENT, () -> x.contract(0));
        due("fault of \"" + text + "\"", x.fault(), want);
    }

    static void finish() {
        System.out.println(made + " answers, " + wrong + " not as due");
        if (wrong != 0) {
            System.exit(1);
        }
    }
}

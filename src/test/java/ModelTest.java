import java.util.Random;

/** All promises: runs of random calls, each answer held against the slow model's; the seeds are fixed. */
public final class ModelTest {
    private static final int RUNS = 1500;
    /** A call more may be some forty calls more; an object is used for 512. */
    private static final int CALLS = 460;
    private static final int SORTS = 18;

    private final Random random;
    private final int seed;
    private final SaltCaravans x = new SaltCaravans();
    private final SlowModel y = new SlowModel();
    private int stations = 0;
    private int caravans = 0;
    private int calls = 0;
    private boolean agrees = true;

    private ModelTest(int seed) {
        this.seed = seed;
        this.random = new Random(seed);
    }

    public static void main(String[] args) {
        for (int seed = 0; seed < RUNS; seed++) {
            new ModelTest(seed).run();
        }
        Checks.finish();
    }

    private interface Answer {
        long get();
    }

    private static String answer(Answer a) {
        try {
            return Long.toString(a.get());
        } catch (IllegalArgumentException | IndexOutOfBoundsException | UnsupportedOperationException
                | java.util.NoSuchElementException e) {
            return e.getClass().getSimpleName();
        }
    }

    private void same(String call, Answer got, Answer want) {
        calls++;
        String g = answer(got);
        String w = answer(want);
        Checks.due("seed " + seed + ", call " + calls + ": " + call, g, w);
        // What follows a wrong answer says nothing new.
        agrees = agrees && g.equals(w);
    }

    private int any(int least, int most) {
        return most <= least ? least : least + random.nextInt(most - least + 1);
    }

    private boolean oneIn(int n) {
        return random.nextInt(n) == 0;
    }

    private int odd() {
        int[] odd = {-1, 0, 1, -2, 12, 13, 100, 501, 1001, 10001, Integer.MIN_VALUE, Integer.MAX_VALUE};
        return odd[random.nextInt(odd.length)];
    }

    /** Mostly within, at times at a bound or beyond it. */
    private int near(int least, int most) {
        if (oneIn(40)) {
            return odd();
        }
        if (oneIn(40)) {
            return oneIn(2) ? least - 1 : most + 1;
        }
        return oneIn(8) ? (oneIn(2) ? least : most) : any(least, most);
    }

    private void run() {
        int towns = any(2, 12);
        for (int i = 0; i < towns; i++) {
            station();
        }
        int ways = any(1, 30);
        for (int i = 0; i < ways; i++) {
            stage();
        }
        int trains = any(1, 12);
        for (int i = 0; i < trains; i++) {
            caravan();
            orders(i);
            contract(i);
        }
        while (agrees && calls < CALLS) {
            anyCall();
        }
    }

    private void anyCall() {
        switch (random.nextInt(SORTS)) {
            case 0: orders(near(0, caravans - 1)); break;
            case 1: contract(near(0, caravans - 1)); break;
            case 2: oddCall(); break;
            case 3: case 4: case 5: days(); break;
            case 6: case 7: look(); break;
            case 8: case 9: case 10: state(); break;
            case 11: knows(); break;
            case 12: lost(); break;
            case 13: entry(); break;
            case 14: correct(); break;
            case 15: balance(); break;
            case 16: split(); break;
            default: count(); break;
        }
    }

    private void oddCall() {
        switch (random.nextInt(6)) {
            case 0: station(); break;
            case 1: stage(); break;
            case 2: caravan(); break;
            case 3: feedOdd(); break;
            case 4: end(odd()); break;
            default: same("fault", x::fault, y::fault); break;
        }
    }

    private void station() {
        int sort = near(0, 3);
        int a = sort == 3 ? near(1, oneIn(3) ? 1000 : 30) : near(0, oneIn(3) ? 1000 : 40);
        int b = sort == 3 ? near(1, oneIn(3) ? 100 : 9) : near(1, oneIn(3) ? 10000 : 100);
        int c = near(-1, 3);
        same("station " + sort + " " + a + " " + b + " " + c, () -> x.station(sort, a, b, c),
                () -> y.station(sort, a, b, c));
        stations = (int) x.count(1);
        calls++;
    }

    private void stage() {
        int from = near(0, stations - 1);
        int to = near(0, stations - 1);
        int days = near(1, oneIn(2) ? 9 : 3);
        same("stage " + from + " " + to + " " + days, () -> x.stage(from, to, days), () -> y.stage(from, to, days));
    }

    private void caravan() {
        int people = near(0, 3);
        int camels = near(1, oneIn(3) ? 500 : 20);
        int station = near(0, stations - 1);
        same("caravan " + people + " " + camels + " " + station, () -> x.caravan(people, camels, station),
                () -> y.caravan(people, camels, station));
        caravans = (int) x.count(3);
        calls++;
    }

    private void feedOdd() {
        feed(new int[] {random.nextInt(), odd(), 0x20202020, random.nextInt(), 0x676f2031});
    }

    private void feed(int[] a) {
        same("feed", () -> x.feed(a[0], a[1], a[2], a[3], a[4]), () -> y.feed(a));
    }

    private void end(int n) {
        same("end " + n, () -> x.end(n) ? 1 : 0, () -> y.end(n) ? 1 : 0);
    }

    private void tell(String text) {
        if (!oneIn(10)) {
            end(0);
        }
        for (int i = 0; i < text.length(); i += 20) {
            int[] a = new int[5];
            for (int k = 0; k < 20; k++) {
                a[k / 4] = a[k / 4] << 8 | (i + k < text.length() ? text.charAt(i + k) : 0);
            }
            feed(a);
        }
        end(text.length());
    }

    private void orders(int caravan) {
        String text = spoil(orderText());
        tell(text);
        same("orders " + caravan + " " + text, () -> x.orders(caravan), () -> y.orders(caravan));
        same("fault of " + text, x::fault, y::fault);
    }

    private void contract(int caravan) {
        String text = spoil(contractText());
        tell(text);
        same("contract " + caravan + " " + text, () -> x.contract(caravan), () -> y.contract(caravan));
        same("fault of " + text, x::fault, y::fault);
    }

    private String blanks() {
        return oneIn(4) ? " ".repeat(any(0, 3)) : "";
    }

    private String orderText() {
        int n = oneIn(12) ? 13 : any(1, 12);
        StringBuilder text = new StringBuilder(blanks());
        for (int i = 0; i < n; i++) {
            text.append(i == 0 ? "" : ";").append(blanks());
            if (oneIn(4)) {
                text.append("if ").append(near(0, stations - 1) & 255).append(oneIn(2) ? "<" : ">").append(blanks());
                text.append(any(0, oneIn(2) ? 30 : 1000)).append(blanks());
            }
            text.append(act()).append(blanks());
        }
        return text.toString();
    }

    private String act() {
        switch (random.nextInt(9)) {
            case 0: return "wait " + (oneIn(20) ? 999999 : any(0, 4));
            case 1: return "again";
            case 2: case 3: return "load " + any(0, oneIn(2) ? 2100 : 50);
            case 4: case 5: return "sell" + blanks() + any(0, oneIn(2) ? 2100 : 50);
            default: return "go " + any(0, Math.max(0, stations));
        }
    }

    private String contractText() {
        String[] parties = {"owner", "driver", "tribe"};
        int n = any(1, 3);
        int first = any(0, 2);
        int step = any(1, 2);
        StringBuilder text = new StringBuilder(blanks());
        for (int i = 0; i < n; i++) {
            text.append(i == 0 ? "" : ",").append(blanks()).append(parties[(first + i * step) % 3]).append(" ");
            text.append(oneIn(4) ? 0 : any(0, 99)).append(blanks());
        }
        if (!oneIn(3)) {
            text.append(" lost ").append(parties[any(0, 2)]).append(" ");
            text.append(oneIn(5) ? any(0, 999999) : any(0, 20)).append(blanks());
        }
        return text.toString();
    }

    /** At times a text with a byte less, more or other. */
    private String spoil(String right) {
        StringBuilder text = new StringBuilder(right);
        for (int i = 0; i < 2 && oneIn(4) && text.length() > 0; i++) {
            String signs = " ;,<>=0129abgoilrstw";
            char sign = oneIn(5) ? (char) any(0, 255) : signs.charAt(random.nextInt(signs.length()));
            int at = random.nextInt(text.length());
            switch (random.nextInt(4)) {
                case 0: text.deleteCharAt(at); break;
                case 1: text.setCharAt(at, sign); break;
                case 2: text.insert(at, sign); break;
                default: text.setLength(at); break;
            }
        }
        return text.toString();
    }

    private void days() {
        int n = oneIn(30) ? near(0, 200) : any(1, 6);
        same("days " + n, () -> x.days(n), () -> y.days(n));
    }

    private void look() {
        int station = near(0, stations - 1);
        int what = near(0, 3);
        same("look " + station + " " + what, () -> x.look(station, what), () -> y.look(station, what));
    }

    private void state() {
        int caravan = near(0, caravans - 1);
        int what = near(0, 7);
        same("state " + caravan + " " + what, () -> x.state(caravan, what), () -> y.state(caravan, what));
    }

    private void knows() {
        int caravan = near(0, caravans - 1);
        int station = near(0, stations - 1);
        boolean day = oneIn(2);
        same("knows " + caravan + " " + station, () -> x.knows(caravan, station, day),
                () -> y.knows(caravan, station, day));
    }

    private void lost() {
        int from = near(0, stations - 1);
        int to = near(0, stations - 1);
        same("lost " + from + " " + to, () -> x.lost(from, to), () -> y.lost(from, to));
    }

    private void entry() {
        int entry = near(0, Math.max(0, (int) y.count(9) - 1));
        int what = near(0, 4);
        same("entry " + entry + " " + what, () -> x.entry(entry, what), () -> y.entry(entry, what));
    }

    private void correct() {
        int times = oneIn(20) ? 30 : 1;
        for (int i = 0; i < times; i++) {
            int entry = near(0, Math.max(0, (int) y.count(9) - 1));
            int money = oneIn(4) ? near(-1000000, 1000000) : any(-50, 50);
            same("correct " + entry + " " + money, () -> x.correct(entry, money) ? 1 : 0,
                    () -> y.correct(entry, money) ? 1 : 0);
        }
    }

    private void balance() {
        int caravan = near(0, caravans - 1);
        int party = near(0, 2);
        int today = (int) y.count(0);
        int day = near(0, today);
        int known = near(0, today);
        same("balance " + caravan + " " + party + " " + day + " " + known,
                () -> x.balance(caravan, party, day, known), () -> y.balance(caravan, party, day, known));
    }

    private void split() {
        int slabs = near(0, oneIn(3) ? 5000 : 100);
        same("split " + slabs, () -> x.split(slabs), () -> y.split(slabs));
    }

    private void count() {
        int what = near(0, 11);
        same("count " + what, () -> x.count(what), () -> y.count(what));
    }
}

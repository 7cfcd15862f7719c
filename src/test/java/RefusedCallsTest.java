/**
 * Each exception of the face, with the arguments next to those that are allowed: which of several is thrown, and that
 * the object then goes on just as a twin that was never called so. The same for answers by which nothing happens.
 */
public final class RefusedCallsTest {
    private static final int LEAST = Integer.MIN_VALUE;
    private static final int MOST = Integer.MAX_VALUE;
    private static final int FAULT = 3;
    private static final int[] NO_STATION = {-1, 4, 11, 12, LEAST, MOST};
    private static final int[] NO_CARAVAN = {-1, 3, 11, 12, LEAST, MOST};
    private static final int[] NO_ENTRY = {-1, 2, 299, 300, LEAST, MOST};

    public static void main(String[] args) {
        stationOfNoNumber();
        stageOfNoStation();
        stageOfNoNumber();
        caravanOfNoStation();
        caravanOfNoNumber();
        fullOfStations();
        fullOfStages();
        fullOfCaravans();
        textsOfNoCaravan();
        wrongTexts();
        daysOfNoNumber();
        lookAndState();
        knowsAndLost();
        entryAndCorrect();
        balanceAndSplit();
        correctAHundredAndFirst();
        fullTape();
        endThatIsNone();
        Checks.finish();
    }

    /** Four stations, three stages and three caravans in the midst of things, two entries and a text on the tape. */
    private static SaltCaravans busy() {
        SaltCaravans x = new SaltCaravans();
        x.station(Checks.LAKE, 0, 0, 0);
        x.station(Checks.MARKET, 20, 3, 0);
        x.station(Checks.WELL, 0, 1, 1);
        x.station(Checks.TOWN, 0, 0, 0);
        x.stage(0, 1, 1);
        x.stage(1, 2, 9);
        x.stage(2, 3, 9);
        x.caravan(0, 5, 0);
        x.caravan(1, 3, 3);
        x.caravan(2, 4, 2);
        Checks.giveContract(x, 0, "tribe 1,owner 2 lost driver 3");
        Checks.giveOrders(x, 0, "load 20;go 1;sell 6;go 2;go 3");
        Checks.giveOrders(x, 1, "wait 9;go 2;go 3");
        x.days(3);
        Checks.giveContract(x, 0, "driver 1 lost tribe 2");
        x.correct(0, 7);
        Checks.dueOrdersFault(x, "go x", FAULT);
        Checks.feedText(x, "go 3");
        return x;
    }

    /** What the object answers from now on: all that can be asked, then what the tape and thirty days make of it. */
    private static String afterlife(SaltCaravans x) {
        StringBuilder text = new StringBuilder(Checks.picture(x));
        text.append(x.feed(0, 0, 0, 0, 0)).append(x.end(4)).append(Checks.answer(x, y -> y.orders(2)));
        x.days(30);
        text.append(Checks.picture(x));
        for (int c = 0; c < 3; c++) {
            for (int party = 0; party < 3; party++) {
                text.append(' ').append(x.balance(c, party, 99, 3)).append(' ').append(x.balance(c, party, 99, 99));
            }
        }
        return text.toString();
    }

    private static void refused(String what, String name, Checks.Ask call) {
        SaltCaravans x = busy();
        Checks.due(what, Checks.answer(x, call), name);
        Checks.due(what + " leaves fault", x.fault(), FAULT);
        Checks.due(what + " leaves behind", afterlife(x), afterlife(busy()));
    }

    private static void stationOfNoNumber() {
        int[][] none = {
            {-1, 1, 1, 1}, {4, 1, 1, 1}, {LEAST, 1, 1, 1}, {MOST, 1, 1, 1},
            {2, -1, 1, 0}, {2, 1001, 1, 0}, {2, LEAST, 1, 0}, {2, MOST, 1, 0},
            {2, 0, 0, 0}, {2, 0, -1, 0}, {2, 0, 10001, 0}, {2, 0, LEAST, 0}, {2, 0, MOST, 0},
            {2, 0, 1, -2}, {2, 0, 1, 4}, {2, 0, 1, LEAST}, {2, 0, 1, MOST},
            {3, 0, 1, 0}, {3, -1, 1, 0}, {3, 1001, 1, 0}, {3, LEAST, 1, 0}, {3, MOST, 1, 0},
            {3, 1, 0, 0}, {3, 1, -1, 0}, {3, 1, 101, 0}, {3, 1, LEAST, 0}, {3, 1, MOST, 0},
        };
        for (int[] a : none) {
            refused("station " + a[0] + " " + a[1] + " " + a[2] + " " + a[3], Checks.ARGUMENT,
                    x -> x.station(a[0], a[1], a[2], a[3]));
        }
    }

    private static void stageOfNoStation() {
        for (int s : NO_STATION) {
            refused("stage from " + s, Checks.INDEX, x -> x.stage(s, 3, 1));
            refused("stage to " + s, Checks.INDEX, x -> x.stage(3, s, 1));
            refused("stage from and to " + s, Checks.INDEX, x -> x.stage(s, s, 1));
            refused("stage from " + s + ", of no days", Checks.INDEX, x -> x.stage(s, 3, 0));
            refused("stage to " + s + ", of no days", Checks.INDEX, x -> x.stage(3, s, 10));
        }
    }

    private static void stageOfNoNumber() {
        int[][] none = {{0, 0, 1}, {3, 3, 9}, {0, 3, 0}, {0, 3, -1}, {0, 3, 10}, {0, 3, LEAST}, {0, 3, MOST}};
        for (int[] a : none) {
            refused("stage " + a[0] + " " + a[1] + " " + a[2], Checks.ARGUMENT, x -> x.stage(a[0], a[1], a[2]));
        }
    }

    private static void caravanOfNoStation() {
        for (int s : NO_STATION) {
            refused("caravan at " + s, Checks.INDEX, x -> x.caravan(0, 1, s));
            refused("caravan at " + s + ", of no people", Checks.INDEX, x -> x.caravan(4, 1, s));
            refused("caravan at " + s + ", of no camels", Checks.INDEX, x -> x.caravan(0, 0, s));
        }
    }

    private static void caravanOfNoNumber() {
        int[][] none = {
            {-1, 1}, {4, 1}, {LEAST, 1}, {MOST, 1}, {0, 0}, {0, -1}, {0, 501}, {0, LEAST}, {0, MOST}, {4, 501},
        };
        for (int[] a : none) {
            refused("caravan " + a[0] + " " + a[1], Checks.ARGUMENT, x -> x.caravan(a[0], a[1], 0));
        }
    }

    /** Twelve stations, thirty stages and twelve caravans, of which two are on their way. */
    private static SaltCaravans full() {
        SaltCaravans x = new SaltCaravans();
        for (int i = 0; i < 12; i++) {
            x.station(i % 4, 10 + i, 20 + i, i % 4);
        }
        for (int i = 0; i < 30; i++) {
            x.stage(i % 11, 11, 1 + i % 9);
        }
        for (int i = 0; i < 12; i++) {
            x.caravan(i % 4, 1 + i, i);
        }
        Checks.giveOrders(x, 0, "go 11;go 10;again");
        Checks.giveOrders(x, 11, "go 0;again");
        x.days(1);
        return x;
    }

    // A whole picture of so much would take more calls than an object has.
    private static String fullPicture(SaltCaravans x) {
        StringBuilder text = new StringBuilder();
        for (int what = 0; what < 12; what++) {
            text.append(x.count(what)).append(' ');
        }
        for (int i = 0; i < 12; i++) {
            for (int what = 0; what < 8; what++) {
                text.append(x.state(i, what)).append(' ');
            }
            text.append(x.look(i, 0)).append(' ').append(x.look(i, 1)).append(' ').append(x.look(i, 3)).append(' ');
        }
        return text.toString();
    }

    private static void refusedWhenFull(String what, String name, Checks.Ask call) {
        SaltCaravans x = full();
        SaltCaravans twin = full();
        Checks.due(what, Checks.answer(x, call), name);
        Checks.due(what + " leaves behind", fullPicture(x), fullPicture(twin));
        x.days(20);
        twin.days(20);
        Checks.due(what + " leaves for later", fullPicture(x), fullPicture(twin));
    }

    private static void fullOfStations() {
        for (int sort = 0; sort < 4; sort++) {
            int s = sort;
            refusedWhenFull("13th station, sort " + s, Checks.FULL, x -> x.station(s, 1, 1, 1));
        }
        refusedWhenFull("13th station, of no sort", Checks.ARGUMENT, x -> x.station(4, 1, 1, 1));
        refusedWhenFull("13th station, of no FALL", Checks.ARGUMENT, x -> x.station(3, 1, 0, 1));
    }

    private static void fullOfStages() {
        refusedWhenFull("31st stage, a new way", Checks.FULL, x -> x.stage(0, 1, 1));
        refusedWhenFull("31st stage, an old way", Checks.FULL, x -> x.stage(0, 11, 9));
        refusedWhenFull("31st stage, of one station", Checks.ARGUMENT, x -> x.stage(0, 0, 1));
        refusedWhenFull("31st stage, of no days", Checks.ARGUMENT, x -> x.stage(0, 1, 10));
        refusedWhenFull("31st stage, from none", Checks.INDEX, x -> x.stage(12, 0, 0));
        refusedWhenFull("31st stage, to none", Checks.INDEX, x -> x.stage(0, -1, 1));
    }

    private static void fullOfCaravans() {
        refusedWhenFull("13th caravan", Checks.FULL, x -> x.caravan(0, 1, 0));
        refusedWhenFull("13th caravan, of no people", Checks.ARGUMENT, x -> x.caravan(-1, 1, 0));
        refusedWhenFull("13th caravan, of no camels", Checks.ARGUMENT, x -> x.caravan(0, 501, 0));
        refusedWhenFull("13th caravan, at none", Checks.INDEX, x -> x.caravan(0, 1, 12));
        refusedWhenFull("13th caravan, at none, of no camels", Checks.INDEX, x -> x.caravan(0, 0, -1));
    }

    // The twin's tape is emptied: it is all that a refused text changes but for what fault() tells.
    private static void refusedText(String text, String name, int fault, Checks.Ask call) {
        SaltCaravans x = busy();
        SaltCaravans twin = busy();
        x.end(0);
        twin.end(0);
        Checks.feedText(x, text);
        Checks.due("\"" + text + "\"", Checks.answer(x, call), name);
        Checks.due("fault of \"" + text + "\"", x.fault(), fault);
        Checks.due("the tape is used up by \"" + text + "\"", x.end(1), false);
        Checks.due("\"" + text + "\" leaves behind", afterlife(x), afterlife(twin));
    }

    private static void textsOfNoCaravan() {
        for (int c : NO_CARAVAN) {
            refusedText("go 1;again", Checks.INDEX, FAULT, x -> x.orders(c));
            refusedText("wrong", Checks.INDEX, FAULT, x -> x.orders(c));
            refusedText("", Checks.INDEX, FAULT, x -> x.orders(c));
            refusedText("tribe 5 lost owner 6", Checks.INDEX, FAULT, x -> x.contract(c));
            refusedText("wrong", Checks.INDEX, FAULT, x -> x.contract(c));
            refusedText("", Checks.INDEX, FAULT, x -> x.contract(c));
        }
    }

    private static void wrongTexts() {
        for (int caravan = 0; caravan < 3; caravan++) {
            int c = caravan;
            refusedText("", Checks.ARGUMENT, 0, x -> x.orders(c));
            refusedText("go 1;wait 2;if 1 < 9 again;", Checks.ARGUMENT, 27, x -> x.orders(c));
            refusedText("go 1;wait 2;if 1 < 9 again x", Checks.ARGUMENT, 27, x -> x.orders(c));
            refusedText("", Checks.ARGUMENT, 0, x -> x.contract(c));
            refusedText("owner 9,driver 8,tribe 7 lost owner 6 x", Checks.ARGUMENT, 38, x -> x.contract(c));
            refusedText("owner 0,driver 0,tribe 0", Checks.ARGUMENT, 24, x -> x.contract(c));
        }
    }

    private static void daysOfNoNumber() {
        int[] none = {-1, 201, LEAST, MOST};
        for (int n : none) {
            refused("days " + n, Checks.ARGUMENT, x -> x.days(n));
        }
    }

    private static void lookAndState() {
        int[] noLook = {-1, 4, LEAST, MOST};
        int[] noState = {-1, 8, LEAST, MOST};
        for (int s : NO_STATION) {
            refused("look at " + s, Checks.INDEX, x -> x.look(s, 0));
            refused("look at " + s + " for nothing", Checks.INDEX, x -> x.look(s, 4));
        }
        for (int what : noLook) {
            for (int station = 0; station < 4; station++) {
                int s = station;
                refused("look at " + s + " for " + what, Checks.ELEMENT, x -> x.look(s, what));
            }
        }
        for (int c : NO_CARAVAN) {
            refused("state of " + c, Checks.INDEX, x -> x.state(c, 0));
            refused("state of " + c + ", of nothing", Checks.INDEX, x -> x.state(c, -1));
        }
        for (int what : noState) {
            refused("state " + what, Checks.ELEMENT, x -> x.state(2, what));
        }
    }

    private static void knowsAndLost() {
        for (int c : NO_CARAVAN) {
            refused("knows of caravan " + c, Checks.INDEX, x -> x.knows(c, 1, true));
            refused("knows of caravan " + c, Checks.INDEX, x -> x.knows(c, 1, false));
        }
        for (int s : NO_STATION) {
            refused("knows of station " + s, Checks.INDEX, x -> x.knows(0, s, true));
            refused("knows of station " + s, Checks.INDEX, x -> x.knows(2, s, false));
            refused("lost from " + s, Checks.INDEX, x -> x.lost(s, 0));
            refused("lost to " + s, Checks.INDEX, x -> x.lost(3, s));
            refused("lost from and to " + s, Checks.INDEX, x -> x.lost(s, s));
        }
    }

    private static void entryAndCorrect() {
        int[] noWhat = {-1, 5, LEAST, MOST};
        int[] noMoney = {-1000001, 1000001, LEAST, MOST};
        for (int e : NO_ENTRY) {
            refused("entry " + e, Checks.INDEX, x -> x.entry(e, 0));
            refused("entry " + e + ", of nothing", Checks.INDEX, x -> x.entry(e, 5));
            refused("correct " + e, Checks.INDEX, x -> x.correct(e, 0) ? 1 : 0);
            refused("correct " + e + ", too much", Checks.INDEX, x -> x.correct(e, 1000001) ? 1 : 0);
        }
        for (int what : noWhat) {
            refused("entry what " + what, Checks.ELEMENT, x -> x.entry(1, what));
        }
        for (int money : noMoney) {
            refused("correct by " + money, Checks.ARGUMENT, x -> x.correct(1, money) ? 1 : 0);
        }
    }

    private static void balanceAndSplit() {
        int[] noParty = {-1, 3, LEAST, MOST};
        int[] noSlabs = {-1, 5001, LEAST, MOST};
        for (int c : NO_CARAVAN) {
            refused("balance of " + c, Checks.INDEX, x -> x.balance(c, 0, 9, 9));
            refused("balance of " + c + ", of no party", Checks.INDEX, x -> x.balance(c, 3, 9, 9));
        }
        for (int party : noParty) {
            refused("balance of party " + party, Checks.ARGUMENT, x -> x.balance(2, party, 9, 9));
        }
        for (int slabs : noSlabs) {
            refused("split " + slabs, Checks.ARGUMENT, x -> x.split(slabs));
        }
    }

    private static SaltCaravans corrected(int times) {
        SaltCaravans x = busy();
        // Busy put an entry right already.
        for (int i = 1; i < times; i++) {
            x.correct(i % 2, i);
        }
        return x;
    }

    private static void correctAHundredAndFirst() {
        SaltCaravans x = corrected(99);
        Checks.due("100th", x.correct(1, 5), true);
        Checks.due("101st", x.correct(1, 6), false);
        Checks.due("nothing happened: MONEY", x.entry(1, 3), 5);
        Checks.due("nothing happened: how often", x.count(11), 100);
        Checks.due("102nd, of the other entry", x.correct(0, 6), false);
        Checks.dueThrowAndStay(x, "103rd, of none", Checks.INDEX, () -> x.correct(2, 6));
        SaltCaravans y = corrected(100);
        Checks.dueThrowAndStay(y, "101st, of too much", Checks.ARGUMENT, () -> y.correct(0, 1000001));
    }

    private static void fullTape() {
        SaltCaravans x = busy();
        x.end(0);
        Checks.feedText(x, "go 3" + " ".repeat(396));
        Checks.due("feed on 400", x.feed(MOST, MOST, MOST, MOST, MOST), SaltCaravans.NONE);
        Checks.due("nothing more came", x.end(401), false);
        Checks.due("what was there is there", x.orders(2), 1);
        SaltCaravans y = busy();
        y.end(0);
        Checks.feedText(y, "go 3" + " ".repeat(377));
        Checks.due("feed on 381", y.feed(MOST, MOST, MOST, MOST, MOST), SaltCaravans.NONE);
        Checks.due("nothing came behind 381", y.end(382), false);
        Checks.due("what was there is there", y.orders(2), 1);
    }

    private static void endThatIsNone() {
        int[] none = {-1, 5, 20, 400, 401, LEAST, MOST};
        for (int n : none) {
            refused("end " + n, "0", x -> x.end(n) ? 1 : 0);
        }
    }
}

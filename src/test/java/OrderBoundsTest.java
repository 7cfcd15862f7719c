/** Terms 2, what ORDERS do, sentence by sentence: the least, the most, and what cannot be done. */
public final class OrderBoundsTest {
    public static void main(String[] args) {
        noOrders();
        twelveOrdersOnTwelveDays();
        goToTheLastStation();
        goWhereNoStageIs();
        goOnAStageToldLater();
        loadAsFarAsThereIsRoom();
        loadAtEachSort();
        sellAsManyAsItHas();
        sellAtEachSort();
        sellOverAStepOfThePrice();
        waitSoManyDays();
        waitBehindAThousandDays();
        waitIsLast();
        againAlone();
        againIsTheTwelfth();
        ifBelowAndAbove();
        ifThePriceIsNothing();
        ifOfTheFirstAndTheLastStation();
        ifNothingIsKnown();
        ifWaitAndAgain();
        whatCannotBeDoneIsOver();
        Checks.finish();
    }

    // "(behind the last one nothing is done any more)": without ORDERS nothing at all
    private static void noOrders() {
        SaltCaravans x = Worlds.lakeAndMarket(9, 9, 1);
        x.days(200);
        Checks.dueState("without orders", x, 0, 0, 0, 1, 0, 10, 0, 0, 0);
    }

    private static void twelveOrdersOnTwelveDays() {
        SaltCaravans x = Worlds.lakeAndMarket(9, 9, 5);
        Checks.due("twelve", Checks.giveOrders(x, 0, "load 1;".repeat(11) + "load 1"), 12);
        for (int day = 1; day <= 12; day++) {
            x.days(1);
            Checks.due("SLABS of day " + day, x.state(0, 3), day);
            Checks.due("next behind day " + day, x.state(0, 7), day);
        }
        x.days(1);
        Checks.due("behind the last one", x.state(0, 3), 12);
        Checks.due("none is next", x.state(0, 7), 12);
    }

    // "go S: if there is a STAGE to it, it sets out"
    private static void goToTheLastStation() {
        SaltCaravans x = Worlds.towns(12);
        x.stage(11, 0, 2);
        x.caravan(0, 1, 0);
        Checks.giveOrders(x, 0, "go 12;go 11;go 0");
        x.days(1);
        Checks.dueState("there is no station 12", x, 0, 0, 0, 1, 0, 10, 0, 0, 1);
        x.days(1);
        Checks.dueState("to station 11", x, 0, 1, 11, 1, 0, 10, 2, 0, 2);
        x.days(2);
        Checks.dueState("and back to 0 on the day it came", x, 0, 1, 0, 1, 0, 10, 2, 4, 3);
    }

    private static void goWhereNoStageIs() {
        SaltCaravans x = Worlds.towns(3);
        x.stage(0, 1, 1);
        x.stage(1, 2, 1);
        x.caravan(0, 1, 0);
        String[] none = {"go 0", "go 2", "go 3", "go 11", "go 12", "go 30", "go 999999"};
        for (String order : none) {
            Checks.giveOrders(x, 0, order + ";again");
            x.days(1);
            Checks.dueState(order, x, 0, 0, 0, 1, 0, 10, 0, 0, 1);
        }
    }

    private static void goOnAStageToldLater() {
        SaltCaravans x = Worlds.towns(1);
        x.caravan(0, 1, 0);
        Checks.giveOrders(x, 0, "go 1;go 1;go 1");
        x.days(1);
        x.station(Checks.TOWN, 0, 0, 0);
        x.days(1);
        Checks.due("a station, but no way", x.state(0, 0), 0);
        x.stage(1, 0, 7);
        x.days(1);
        Checks.due("a way", x.state(0, 5), 7);
    }

    // "load N: at a LAKE as many SLABS, as far as it has room"
    private static void loadAsFarAsThereIsRoom() {
        int[] load = {0, 1, 7, 8, 9, 999999};
        int[] want = {0, 1, 7, 8, 8, 8};
        for (int i = 0; i < load.length; i++) {
            SaltCaravans x = Worlds.lakeAndMarket(9, 9, 2);
            Checks.giveOrders(x, 0, "load " + load[i] + ";load 1");
            x.days(1);
            Checks.due("load " + load[i], x.state(0, 3), want[i]);
            Checks.due("loaded in all", x.count(4), want[i]);
            x.days(1);
            Checks.due("one more", x.state(0, 3), Math.min(8, want[i] + 1));
            Checks.due("loaded in all", x.count(4), Math.min(8, want[i] + 1));
            Checks.due("carried now", x.count(7), Math.min(8, want[i] + 1));
        }
    }

    private static void loadAtEachSort() {
        for (int sort = 0; sort < 4; sort++) {
            SaltCaravans x = new SaltCaravans();
            x.station(sort, 5, 5, 0);
            x.caravan(0, 2, 0);
            Checks.giveOrders(x, 0, "load 3;load 3");
            x.days(1);
            Checks.due("load at sort " + sort, x.state(0, 3), sort == Checks.LAKE ? 3 : 0);
            Checks.due("its turn is over", x.state(0, 7), 1);
        }
    }

    // "sell N: at a MARKET as many as it has of these"
    private static void sellAsManyAsItHas() {
        int[] sell = {0, 1, 5, 6, 7, 999999};
        int[] want = {0, 1, 5, 6, 6, 6};
        for (int i = 0; i < sell.length; i++) {
            SaltCaravans x = Worlds.lakeAndMarket(10, 100, 2);
            Checks.giveOrders(x, 0, "load 6;go 1;sell " + sell[i] + ";sell 0");
            x.days(3);
            Checks.due("SLABS behind sell " + sell[i], x.state(0, 3), 6 - want[i]);
            Checks.due("SOLD", x.look(1, 2), want[i]);
            Checks.due("sold in all", x.count(5), want[i]);
            Checks.due("MONEY", x.count(10), 10 * want[i]);
            Checks.due("an ENTRY, if there is MONEY", x.count(9), want[i] > 0 ? 1 : 0);
            Checks.due("carried now", x.count(7), 6 - want[i]);
            x.days(1);
            Checks.due("sell 0 is nothing", x.count(5), want[i]);
        }
        SaltCaravans y = Worlds.lakeAndMarket(10, 100, 2);
        Checks.giveOrders(y, 0, "go 1;sell 5");
        y.days(2);
        Checks.due("it has none", y.count(5), 0);
        Checks.due("its turn is over", y.state(0, 7), 2);
    }

    private static void sellAtEachSort() {
        for (int sort = 0; sort < 4; sort++) {
            SaltCaravans x = new SaltCaravans();
            x.station(Checks.LAKE, 0, 0, 0);
            x.station(sort, 5, 5, 0);
            x.stage(0, 1, 1);
            x.caravan(0, 2, 0);
            Checks.giveOrders(x, 0, "load 4;go 1;sell 3;again");
            x.days(3);
            Checks.due("sell at sort " + sort, x.state(0, 3), sort == Checks.MARKET ? 1 : 4);
            Checks.due("SOLD of sort " + sort, x.look(1, 2), sort == Checks.MARKET ? 3 : 0);
            Checks.due("its turn is over", x.state(0, 7), 3);
        }
    }

    // "one after the other, each for the PRICE just then, SOLD is one more"
    private static void sellOverAStepOfThePrice() {
        int[] want = {0, 4, 8, 12, 15, 18, 21, 23, 25, 27, 28, 29, 30, 30, 30};
        for (int n = 0; n < want.length; n++) {
            SaltCaravans x = Worlds.soldToday(4, 3, n);
            Checks.due("MONEY of " + n + " slabs", x.count(10), want[n]);
        }
        // SOLD goes on from where another caravan left it, between two steps.
        SaltCaravans y = Worlds.lakeAndMarket(4, 3, 5);
        y.caravan(0, 5, 0);
        Checks.giveOrders(y, 0, "load 2;go 1;sell 2");
        Checks.giveOrders(y, 1, "load 3;go 1;sell 3");
        y.days(3);
        Checks.due("the first two", y.balance(0, 0, 3, 3), 8);
        Checks.due("4, 3 and 3", y.balance(1, 0, 3, 3), 10);
    }

    // "wait N: nothing, on so many days in all (0: one)"
    private static void waitSoManyDays() {
        int[] wait = {0, 1, 2, 3, 9};
        int[] want = {1, 1, 2, 3, 9};
        for (int i = 0; i < wait.length; i++) {
            SaltCaravans x = Worlds.lakeAndMarket(9, 9, 2);
            Checks.giveOrders(x, 0, "wait " + wait[i] + ";load 1");
            for (int day = 1; day < want[i]; day++) {
                x.days(1);
                Checks.due("wait " + wait[i] + " on day " + day, x.state(0, 7), 0);
            }
            x.days(1);
            Checks.due("the last day of wait " + wait[i], x.state(0, 7), 1);
            Checks.due("nothing is done on it", x.state(0, 3), 0);
            x.days(1);
            Checks.due("the next order", x.state(0, 3), 1);
        }
    }

    private static void waitBehindAThousandDays() {
        SaltCaravans x = Worlds.lakeAndMarket(9, 9, 2);
        Checks.giveOrders(x, 0, "wait 1000;load 1");
        for (int i = 0; i < 4; i++) {
            x.days(200);
        }
        x.days(199);
        Checks.due("day 999", x.state(0, 7), 0);
        x.days(1);
        Checks.due("day 1000", x.state(0, 7), 1);
        SaltCaravans y = Worlds.lakeAndMarket(9, 9, 2);
        Checks.giveOrders(y, 0, "wait 999999;load 1");
        for (int i = 0; i < 480; i++) {
            y.days(200);
        }
        Checks.due("the longest wait is longer than an object lasts", y.state(0, 7), 0);
    }

    private static void waitIsLast() {
        SaltCaravans x = Worlds.lakeAndMarket(9, 9, 2);
        Checks.giveOrders(x, 0, "load 1;wait 2");
        x.days(2);
        Checks.due("the wait is next", x.state(0, 7), 1);
        x.days(1);
        Checks.due("none is next", x.state(0, 7), 2);
        x.days(9);
        Checks.dueState("nothing is done any more", x, 0, 0, 0, 2, 1, 20, 0, 0, 2);
    }

    // "again: the first ORDER's turn is next"
    private static void againAlone() {
        SaltCaravans x = Worlds.lakeAndMarket(9, 9, 2);
        Checks.giveOrders(x, 0, "again");
        x.days(200);
        Checks.due("again and again", x.state(0, 7), 0);
    }

    private static void againIsTheTwelfth() {
        SaltCaravans x = Worlds.lakeAndMarket(9, 9, 500);
        Checks.giveOrders(x, 0, "load 1;".repeat(11) + "again");
        x.days(11);
        Checks.due("the twelfth is next", x.state(0, 7), 11);
        x.days(1);
        Checks.due("the first is next", x.state(0, 7), 0);
        Checks.due("on that day nothing else", x.state(0, 3), 11);
        x.days(12);
        Checks.due("once more", x.state(0, 3), 22);
    }

    // "if it knows a PRICE of the STATION M below N (> : above N)"
    private static void ifBelowAndAbove() {
        int[] bound = {0, 1, 9, 10, 11, 999999};
        for (int n : bound) {
            Checks.due("10 < " + n, goesIf("1 < " + n), 10 < n);
            Checks.due("10 > " + n, goesIf("1 > " + n), 10 > n);
        }
    }

    /** A caravan at market 1 of PRICE 10 that goes away if it is so. */
    private static boolean goesIf(String test) {
        SaltCaravans x = Worlds.lakeAndMarket(10, 1, 1);
        x.caravan(0, 1, 1);
        Checks.giveOrders(x, 1, "if " + test + " go 0");
        x.days(1);
        Checks.due("its turn is over", x.state(1, 7), 1);
        return x.state(1, 0) == 1;
    }

    private static void ifThePriceIsNothing() {
        String[] test = {"1 < 0", "1 < 1", "1 > 0"};
        boolean[] want = {false, true, false};
        for (int i = 0; i < test.length; i++) {
            SaltCaravans x = Worlds.soldToday(1, 1, 9);
            Checks.giveOrders(x, 0, "if " + test[i] + " go 0");
            x.days(1);
            Checks.due("PRICE", x.knows(0, 1, false), 0);
            Checks.due("if " + test[i], x.state(0, 0) == 1, want[i]);
        }
    }

    private static void ifOfTheFirstAndTheLastStation() {
        int[] markets = {0, 11};
        for (int market : markets) {
            SaltCaravans x = new SaltCaravans();
            for (int i = 0; i < 12; i++) {
                x.station(i == market ? Checks.MARKET : Checks.LAKE, 10, 1, 0);
            }
            x.stage(market, 5, 1);
            x.caravan(0, 3, market);
            Checks.giveOrders(x, 0, "go 5;if " + market + " > 9 load 1;if " + market + " < 11 load 2;if 12 > 0 load 4");
            x.days(2);
            Checks.due("above", x.state(0, 3), 1);
            x.days(1);
            Checks.due("below", x.state(0, 3), 3);
            x.days(1);
            Checks.due("station 12", x.state(0, 3), 3);
        }
    }

    // "if it knows a PRICE .., ACT is done, else nothing"
    private static void ifNothingIsKnown() {
        String[] stations = {"0", "1", "2", "3", "12", "999999"};
        for (String station : stations) {
            // 0 is a lake, 1 a market where nobody was, 2 a town; the others are none.
            SaltCaravans x = Worlds.lakeAndMarket(10, 1, 1);
            x.station(Checks.TOWN, 0, 0, 0);
            Checks.giveOrders(x, 0, "if " + station + " < 999999 load 1;if " + station + " > 0 load 1");
            x.days(1);
            Checks.due("below: its turn is over", x.state(0, 7), 1);
            x.days(1);
            Checks.due("above: its turn is over", x.state(0, 7), 2);
            Checks.due("nothing was done", x.state(0, 3), 0);
        }
    }

    private static void ifWaitAndAgain() {
        SaltCaravans x = Worlds.lakeAndMarket(10, 1, 1);
        x.caravan(0, 1, 1);
        Checks.giveOrders(x, 1, "if 1 > 10 wait 9;if 1 > 10 again;if 1 > 9 wait 0;if 1 > 9 wait 2;if 1 > 9 again");
        int[] next = {1, 2, 3, 3, 4, 0, 1};
        for (int i = 0; i < next.length; i++) {
            x.days(1);
            Checks.due("next behind day " + (i + 1), x.state(1, 7), next[i]);
        }
        SaltCaravans y = Worlds.lakeAndMarket(10, 1, 1);
        y.caravan(0, 1, 1);
        Checks.giveOrders(y, 1, "if 1 < 10 again");
        y.days(1);
        Checks.due("behind an again that is not done", y.state(1, 7), 1);
        y.days(9);
        Checks.due("nothing is done any more", y.state(1, 7), 1);
    }

    // "What cannot be done is as if it were nothing, and its turn is over."
    private static void whatCannotBeDoneIsOver() {
        SaltCaravans x = Worlds.lakeAndMarket(10, 1, 1);
        x.caravan(0, 1, 1);
        Checks.giveOrders(x, 0, "sell 1;go 0;load 0;go 9;load 2");
        Checks.giveOrders(x, 1, "load 1;sell 1;go 1;sell 0;load 2");
        for (int day = 1; day <= 4; day++) {
            x.days(1);
            Checks.dueState("at the lake", x, 0, 0, 0, 1, 0, 10, 0, 0, day);
            Checks.dueState("at the market", x, 1, 0, 1, 1, 0, 10, 0, 0, day);
        }
        x.days(1);
        Checks.due("what can be done at the lake", x.state(0, 3), 2);
        Checks.due("nothing was sold", x.count(5) + x.count(9) + x.count(10) + x.look(1, 2), 0);
    }
}

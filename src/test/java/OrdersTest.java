/** What each ORDER does (promises 7, 10, 11 and 12, and the document's terms 2). */
public final class OrdersTest {
    private static final int NONE = SaltCaravans.NONE;

    public static void main(String[] args) {
        theReadmesRun();
        oneOrderADay();
        goNeedsAStage();
        sellAtAMarketAlone();
        sellSlabBySlab();
        sellForNothing();
        sellsOfOneDayByNumbers();
        waitSoManyDays();
        waitBehindIf();
        againGoesOn();
        ifNothingIsKnown();
        newOrdersBeginAtTheFirst();
        newOrdersOnAStage();
        Checks.finish();
    }

    /** Lake 0, market 1 (a day away), town 2 (two days from the market). */
    private static SaltCaravans world(int top, int fall, int camels) {
        SaltCaravans x = new SaltCaravans();
        x.station(Checks.LAKE, 0, 0, 0);
        x.station(Checks.MARKET, top, fall, 0);
        x.station(Checks.TOWN, 0, 0, 0);
        x.stage(0, 1, 1);
        x.stage(2, 1, 2);
        x.caravan(0, camels, 0);
        return x;
    }

    private static void theReadmesRun() {
        SaltCaravans x = new SaltCaravans();
        int lake = x.station(1, 0, 0, 0);
        int market = x.station(3, 20, 3, 0);
        x.stage(lake, market, 2);
        int c = x.caravan(0, 5, lake);
        x.feed(0x6c6f6164, 0x20393b67, 0x6f20313b, 0x73656c6c, 0x20390000);
        x.end(18);
        Checks.due("orders", x.orders(c), 3);
        x.days(4);
        Checks.due("balance", x.balance(c, 0, 4, 4), 171);
    }

    private static void oneOrderADay() {
        SaltCaravans x = world(10, 1, 2);
        Checks.due("none is next of none", x.state(0, 7), 0);
        Checks.giveOrders(x, 0, "load 1;load 2;go 1;sell 1;go 2");
        Checks.due("the first is next", x.state(0, 7), 0);
        x.days(1);
        Checks.due("SLABS of the first day", x.state(0, 3), 1);
        Checks.due("the second is next", x.state(0, 7), 1);
        x.days(1);
        Checks.due("SLABS of the second day", x.state(0, 3), 3);
        x.days(1);
        Checks.due("on the way", x.state(0, 0), 1);
        x.days(1);
        Checks.due("it sells on the day it came", x.state(0, 3), 2);
        x.days(1);
        Checks.due("on the way again", x.state(0, 5), 2);
        Checks.due("none is next", x.state(0, 7), 5);
        x.days(9);
        Checks.due("nothing is done any more", x.state(0, 1), 2);
        Checks.due("at the STATION", x.state(0, 0), 0);
        Checks.due("none is next", x.state(0, 7), 5);
    }

    private static void goNeedsAStage() {
        SaltCaravans x = world(10, 1, 2);
        Checks.giveOrders(x, 0, "go 2;go 0;go 3;go 999999;go 1;go 2");
        for (int i = 1; i <= 4; i++) {
            x.days(1);
            Checks.due("its turn is over", x.state(0, 7), i);
            Checks.due("it stays", x.state(0, 0), 0);
            Checks.due("it is where it was", x.state(0, 1), 0);
        }
        x.days(1);
        Checks.due("where a STAGE is it goes", x.state(0, 1), 1);
        x.days(1);
        Checks.due("both ways: market to town", x.state(0, 1), 2);
        Checks.due("DAYS to go", x.state(0, 5), 2);
    }

    private static void sellAtAMarketAlone() {
        SaltCaravans x = world(10, 1, 2);
        Checks.giveOrders(x, 0, "load 8;sell 8;go 1;go 2;sell 8");
        x.days(2);
        Checks.due("not at a lake", x.state(0, 3), 8);
        x.days(6);
        Checks.due("not in a town", x.state(0, 3), 8);
        Checks.due("its turn is over", x.state(0, 7), 5);
        Checks.due("nothing sold", x.count(5), 0);
        Checks.due("no ENTRY", x.count(9), 0);
    }

    private static void sellSlabBySlab() {
        SaltCaravans x = world(10, 3, 5);
        Checks.giveOrders(x, 0, "load 20;go 1;sell 4;sell 0;sell 999999;sell 1");
        x.days(3);
        Checks.due("10, 10, 10, 9", x.count(10), 39);
        Checks.due("SOLD", x.look(1, 2), 4);
        Checks.due("SLABS left", x.state(0, 3), 16);
        x.days(1);
        Checks.due("sell 0", x.count(5), 4);
        Checks.due("SOLD is 0 for two days", x.look(1, 2), 1);
        x.days(1);
        // SOLD is 0: three at 10, 9, 8, 7, 6 and one at 5.
        Checks.due("all it has", x.count(10), 39 + 3 * 40 + 5);
        Checks.due("SOLD", x.look(1, 2), 16);
        Checks.due("SLABS left", x.state(0, 3), 0);
        Checks.due("sold in all", x.count(5), 20);
        Checks.due("carried", x.count(7), 0);
        x.days(1);
        Checks.due("it has none to sell", x.count(9), 2);
    }

    private static void sellForNothing() {
        SaltCaravans x = world(2, 1, 2);
        Checks.giveOrders(x, 0, "load 8;go 1;sell 6;sell 2");
        x.days(3);
        Checks.due("2, 1, and nothing", x.count(10), 3);
        Checks.due("SOLD of nothing too", x.look(1, 2), 6);
        Checks.due("PRICE is 0 at least", x.look(1, 1), 0);
        x.days(1);
        Checks.due("no MONEY", x.count(10), 3);
        Checks.due("sold all the same", x.count(5), 8);
        Checks.due("SOLD", x.look(1, 2), 7);
        Checks.due("no ENTRY without MONEY", x.count(9), 1);
    }

    private static void sellsOfOneDayByNumbers() {
        SaltCaravans x = world(10, 1, 1);
        x.caravan(0, 1, 0);
        Checks.giveOrders(x, 0, "load 2;go 1;sell 2");
        Checks.giveOrders(x, 1, "load 2;go 1;sell 2");
        x.days(3);
        Checks.due("the lower number sells first", x.balance(0, 0, 3, 3), 19);
        Checks.due("the next one for less", x.balance(1, 0, 3, 3), 15);
    }

    private static void waitSoManyDays() {
        SaltCaravans x = world(10, 1, 1);
        Checks.giveOrders(x, 0, "wait 0;wait 1;wait 3;load 1");
        int[] next = {1, 2, 2, 2, 3, 4};
        for (int i = 0; i < next.length; i++) {
            x.days(1);
            Checks.due("next behind day " + (i + 1), x.state(0, 7), next[i]);
        }
        Checks.due("loaded at last", x.state(0, 3), 1);
        SaltCaravans y = world(10, 1, 1);
        Checks.giveOrders(y, 0, "wait 999999;load 1");
        y.days(200);
        Checks.due("a long wait", y.state(0, 7), 0);
    }

    private static void waitBehindIf() {
        // What began to wait waits on, whatever the PRICE does; what did not begin is over.
        SaltCaravans x = world(10, 1, 2);
        Checks.giveOrders(x, 0, "load 8;go 1;sell 8;if 1 < 5 wait 4;load 1");
        x.days(4);
        Checks.due("PRICE 3 is known", x.knows(0, 1, false), 3);
        Checks.due("it waits", x.state(0, 7), 3);
        x.days(2);
        Checks.due("PRICE 5 is known", x.knows(0, 1, false), 5);
        Checks.due("it waits on", x.state(0, 7), 3);
        x.days(1);
        Checks.due("so many days in all", x.state(0, 7), 4);
        SaltCaravans y = world(10, 1, 2);
        Checks.giveOrders(y, 0, "go 1;if 1 > 10 wait 4;load 1");
        y.days(2);
        Checks.due("no wait", y.state(0, 7), 2);
    }

    private static void againGoesOn() {
        SaltCaravans x = world(100, 100, 2);
        Checks.giveOrders(x, 0, "load 3;go 1;sell 3;go 0;again");
        x.days(4);
        Checks.due("again is next", x.state(0, 7), 4);
        x.days(1);
        Checks.due("the first is next", x.state(0, 7), 0);
        Checks.due("again is all that was done", x.state(0, 3), 0);
        x.days(1);
        Checks.due("the first is done", x.state(0, 3), 3);
        x.days(194);
        Checks.due("it goes on: loaded", x.count(4), 3 * 40);
        Checks.due("it goes on: sold", x.count(5), 3 * 40);
    }

    private static void ifNothingIsKnown() {
        SaltCaravans x = world(10, 1, 1);
        Checks.giveOrders(x, 0, "if 1 < 999999 load 1;if 1 > 0 load 1;if 0 < 999999 load 1;if 3 < 999999 load 1;"
                + "if 999999 < 999999 load 1;if 12 > 0 load 1");
        x.days(6);
        Checks.due("nothing is loaded", x.state(0, 3), 0);
        Checks.due("all turns are over", x.state(0, 7), 6);
        // The PRICE is known on, though the market is far; a market that is told later is known by nobody.
        SaltCaravans y = world(10, 1, 1);
        Checks.giveOrders(y, 0, "go 1;go 0;if 1 > 9 load 2;if 3 < 999999 load 2");
        y.days(2);
        y.station(Checks.MARKET, 5, 5, 0);
        y.days(2);
        Checks.due("by what it knew", y.state(0, 3), 2);
        Checks.due("not by what it does not know", y.knows(0, 3, false), NONE);
    }

    private static void newOrdersBeginAtTheFirst() {
        SaltCaravans x = world(10, 1, 1);
        Checks.giveOrders(x, 0, "wait 5;load 1;load 1");
        x.days(2);
        Checks.due("fewer orders", Checks.giveOrders(x, 0, "load 2;go 1"), 2);
        Checks.due("the first one is next", x.state(0, 7), 0);
        x.days(1);
        Checks.due("no wait is left", x.state(0, 3), 2);
        x.days(1);
        Checks.due("on the way", x.state(0, 0), 1);
        x.days(3);
        Checks.due("the old third order is not there any more", x.state(0, 7), 2);
        Checks.due("new orders behind the last", Checks.giveOrders(x, 0, "go 0"), 1);
        x.days(1);
        Checks.due("they are done", x.state(0, 0), 1);
    }

    private static void newOrdersOnAStage() {
        SaltCaravans x = world(10, 1, 1);
        Checks.giveOrders(x, 0, "go 1;go 2");
        x.days(2);
        Checks.due("on the way to the town", x.state(0, 5), 2);
        Checks.giveOrders(x, 0, "go 1;again");
        x.days(1);
        Checks.due("on a STAGE no order is done", x.state(0, 7), 0);
        Checks.due("it goes where it went", x.state(0, 1), 2);
        x.days(1);
        Checks.due("it turns back there", x.state(0, 1), 1);
        Checks.due("the first order is done", x.state(0, 7), 1);
    }
}

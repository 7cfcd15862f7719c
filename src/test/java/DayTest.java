/** Promises 10 to 14: what a DAY does to stations and caravans, and what can be asked of them. */
public final class DayTest {
    private static final int NONE = SaltCaravans.NONE;

    public static void main(String[] args) {
        wellsFill();
        marketsForget();
        waterOnAStage();
        camelsDie();
        fewSlabsAreKept();
        goneOnTheWay();
        aLastDayWithoutWater();
        lostGoesByWays();
        ownPeopleDrinkFirst();
        theEarlierDrinksFirst();
        aWellOfNobody();
        otherStationsGiveAll();
        pricesAreKnownAtMarkets();
        lettersTellTheLatest();
        lettersComeAheadOfOrders();
        Checks.finish();
    }

    private static void wellsFill() {
        SaltCaravans x = new SaltCaravans();
        x.station(Checks.WELL, 7, 25, NONE);
        x.station(Checks.TOWN, 0, 0, 0);
        x.stage(0, 1, 2);
        x.caravan(0, 3, 1);
        Checks.giveOrders(x, 0, "go 0");
        x.days(3);
        Checks.due("what the caravan left", x.look(0, 1), 25 - 6);
        x.days(1);
        Checks.due("ROOM at most", x.look(0, 1), 25);
        Checks.due("a well has no SOLD", x.look(0, 2), 0);
        SaltCaravans y = new SaltCaravans();
        y.station(Checks.WELL, 2, 25, NONE);
        y.station(Checks.TOWN, 0, 0, 0);
        y.stage(0, 1, 2);
        y.caravan(0, 3, 1);
        Checks.giveOrders(y, 0, "go 0");
        y.days(3);
        y.days(1);
        Checks.due("FLOW more", y.look(0, 1), 25 - 6 + 2);
    }

    private static void marketsForget() {
        SaltCaravans x = Worlds.lakeAndMarket(5, 2, 3);
        Checks.giveOrders(x, 0, "load 7;go 1;sell 7");
        x.days(3);
        Checks.due("SOLD", x.look(1, 2), 7);
        Checks.due("PRICE, rounded down", x.look(1, 1), 2);
        x.days(1);
        Checks.due("SOLD, FALL less", x.look(1, 2), 5);
        Checks.due("PRICE then", x.look(1, 1), 3);
        x.days(3);
        Checks.due("SOLD, 0 at least", x.look(1, 2), 0);
        Checks.due("TOP again", x.look(1, 1), 5);
    }

    private static void waterOnAStage() {
        SaltCaravans x = new SaltCaravans();
        x.station(Checks.TOWN, 0, 0, 0);
        x.station(Checks.WELL, 0, 1, NONE);
        x.stage(0, 1, 3);
        x.caravan(2, 4, 0);
        Checks.giveOrders(x, 0, "go 1");
        x.days(1);
        Checks.due("full when it sets out", x.state(0, 4), 40);
        Checks.due("days to go", x.state(0, 5), 3);
        Checks.due("to which it goes", x.state(0, 1), 1);
        Checks.due("on a STAGE", x.state(0, 0), 1);
        Checks.due("nobody there", x.look(0, 3) + x.look(1, 3), 0);
        x.days(2);
        Checks.due("a WATER a CAMEL and day", x.state(0, 4), 32);
        Checks.due("days to go", x.state(0, 5), 1);
        Checks.due("CAME stays", x.state(0, 6), 0);
        x.days(1);
        Checks.due("the last day needs WATER too; the well had 1", x.state(0, 4), 29);
        Checks.due("at a STATION", x.state(0, 0), 0);
        Checks.due("CAME", x.state(0, 6), 4);
        Checks.due("days to go", x.state(0, 5), 0);
        Checks.due("one is there", x.look(1, 3), 1);
    }

    private static void camelsDie() {
        // 20 camels have 200; 180 are gone at the well, which gives 1: 21, then 1, then 19 are lacking.
        SaltCaravans x = Worlds.dryWay(20, 1, "", "load 78;go 1;go 2");
        x.days(12);
        Checks.due("WATER behind the well", x.state(0, 4), 1);
        Checks.due("CAMELS", x.state(0, 2), 20);
        x.days(1);
        Checks.due("a half of 19 died, rounded up", x.state(0, 2), 10);
        Checks.due("WATER is 0", x.state(0, 4), 0);
        Checks.due("SLABS above 4 a CAMEL are LOST", x.state(0, 3), 40);
        Checks.due("LOST there", x.lost(1, 2), 38);
        Checks.due("not the other way", x.lost(2, 1), 0);
        Checks.due("a day less is to go all the same", x.state(0, 5), 7);
        x.days(1);
        Checks.due("a half of 10 died", x.state(0, 2), 5);
        x.days(1);
        Checks.due("3 of 5 died", x.state(0, 2), 2);
        Checks.due("CAMELS that died", x.count(8), 18);
        Checks.due("LOST in all", x.count(6), 70);
        Checks.due("carried", x.count(7), 8);
    }

    private static void fewSlabsAreKept() {
        // The slabs are so few that the camels that are left can carry them.
        SaltCaravans x = Worlds.dryWay(20, 1, "", "load 20;go 1;go 2");
        x.days(13);
        Checks.due("10 CAMELS carry 20 SLABS", x.state(0, 3), 20);
        Checks.due("nothing LOST", x.count(6), 0);
        x.days(2);
        Checks.due("2 CAMELS carry 8", x.state(0, 3), 8);
        Checks.due("LOST", x.lost(1, 2), 12);
    }

    private static void goneOnTheWay() {
        SaltCaravans x = Worlds.dryWay(4, 1, "", "load 3;go 1;go 2;again");
        x.days(15);
        int[] want = {2, 2, 0, 0, 0, 0, 11, 3};
        for (int what = 0; what < 8; what++) {
            Checks.due("state of one that is GONE " + what, x.state(0, what), want[what]);
        }
        Checks.due("its SLABS are LOST", x.lost(1, 2), 3);
        Checks.due("it is not at the STATION", x.look(2, 3), 0);
        x.days(20);
        Checks.due("it does nothing any more", x.state(0, 0), 2);
        Checks.due("it has no CAMELS", x.state(0, 2), 0);
        Checks.due("orders may be told all the same", Checks.giveOrders(x, 0, "load 1;go 0"), 2);
        Checks.due("a contract too", Checks.giveContract(x, 0, "owner 1"), 1);
        x.days(3);
        Checks.due("but are not done", x.state(0, 7), 0);
        Checks.due("camels that died are counted once", x.count(8), 4);
    }

    private static void aLastDayWithoutWater() {
        // Two camels die on the last day, and the other two arrive.
        SaltCaravans x = new SaltCaravans();
        x.station(Checks.TOWN, 0, 0, 0);
        x.station(Checks.WELL, 0, 1, NONE);
        x.station(Checks.TOWN, 0, 0, 0);
        x.stage(0, 1, 9);
        x.stage(1, 2, 2);
        x.caravan(1, 4, 0);
        Checks.giveOrders(x, 0, "go 1;go 2");
        x.days(12);
        Checks.due("CAMELS", x.state(0, 2), 2);
        Checks.due("it came", x.state(0, 0), 0);
        Checks.due("CAME", x.state(0, 6), 12);
        Checks.due("and drank for two CAMELS", x.state(0, 4), 20);
        // The last camel dies on the day on which it would have come.
        SaltCaravans y = new SaltCaravans();
        y.station(Checks.TOWN, 0, 0, 0);
        y.station(Checks.WELL, 0, 1, NONE);
        y.station(Checks.TOWN, 0, 0, 0);
        y.stage(0, 1, 9);
        y.stage(1, 2, 3);
        y.caravan(1, 1, 0);
        Checks.giveOrders(y, 0, "go 1;go 2");
        y.days(13);
        Checks.due("GONE on the last day", y.state(0, 0), 2);
        Checks.due("where it went", y.state(0, 1), 2);
        Checks.due("CAME is of the well", y.state(0, 6), 10);
    }

    private static void lostGoesByWays() {
        SaltCaravans x = Worlds.dryWay(20, 1, "", "load 80;go 1;go 2");
        x.caravan(0, 20, 0);
        Checks.giveOrders(x, 1, "load 80;go 1;go 2");
        x.days(13);
        // The first one had the water of the well: 21, 1, 19 lacking; the second one 20, 0, 20 lacking.
        Checks.due("SLABS of both", x.lost(1, 2), 40 + 40);
        Checks.due("on the first STAGE", x.lost(0, 1), 0);
        Checks.due("where no STAGE is", x.lost(0, 2), 0);
        Checks.due("of one STATION", x.lost(1, 1), 0);
    }

    private static void ownPeopleDrinkFirst() {
        SaltCaravans x = new SaltCaravans();
        x.station(Checks.WELL, 0, 10, 2);
        x.station(Checks.TOWN, 0, 0, 0);
        x.stage(0, 1, 2);
        x.caravan(1, 3, 1);
        x.caravan(2, 3, 1);
        Checks.giveOrders(x, 0, "go 0");
        Checks.giveOrders(x, 1, "wait 1;go 0");
        x.caravan(2, 3, 1);
        Checks.giveOrders(x, 2, "go 0");
        x.days(3);
        Checks.due("the other one has the rest", x.state(0, 4), 28);
        Checks.due("the own one is full", x.state(2, 4), 30);
        Checks.due("nothing is left", x.look(0, 1), 0);
    }

    private static void theEarlierDrinksFirst() {
        SaltCaravans x = new SaltCaravans();
        x.station(Checks.WELL, 9, 9, NONE);
        x.station(Checks.TOWN, 0, 0, 0);
        x.stage(0, 1, 9);
        x.caravan(0, 2, 1);
        x.caravan(0, 2, 1);
        x.caravan(0, 2, 1);
        Checks.giveOrders(x, 0, "wait 1;go 0");
        Checks.giveOrders(x, 1, "go 0");
        Checks.giveOrders(x, 2, "go 0");
        x.days(10);
        Checks.due("of two that came as early the lower number", x.state(1, 4), 11);
        Checks.due("the higher number has nothing", x.state(2, 4), 2);
        x.days(1);
        Checks.due("the first is full", x.state(1, 4), 20);
        Checks.due("and takes all ahead of the others", x.state(2, 4), 2);
        x.days(1);
        Checks.due("the one that CAME earlier", x.state(2, 4), 11);
        Checks.due("is ahead of a lower number that CAME later", x.state(0, 4), 2);
    }

    private static void aWellOfNobody() {
        SaltCaravans x = new SaltCaravans();
        x.station(Checks.WELL, 0, 5, NONE);
        x.station(Checks.TOWN, 0, 0, 0);
        x.stage(0, 1, 5);
        for (int people = 3; people >= 0; people--) {
            x.caravan(people, 1, 1);
            Checks.giveOrders(x, 3 - people, "go 0");
        }
        x.days(6);
        Checks.due("all by numbers: first", x.state(0, 4), 10);
        Checks.due("second", x.state(1, 4), 5);
        Checks.due("third", x.state(2, 4), 5);
    }

    private static void otherStationsGiveAll() {
        int[] sorts = {Checks.TOWN, Checks.LAKE, Checks.MARKET};
        for (int sort : sorts) {
            SaltCaravans x = new SaltCaravans();
            x.station(Checks.TOWN, 0, 0, 0);
            x.station(sort, 5, 5, 0);
            x.stage(0, 1, 4);
            x.caravan(0, 500, 0);
            Checks.giveOrders(x, 0, "go 1");
            x.days(4);
            Checks.due("WATER on the way", x.state(0, 4), 3500);
            x.days(1);
            Checks.due("WATER at sort " + sort, x.state(0, 4), 5000);
        }
    }

    private static void pricesAreKnownAtMarkets() {
        SaltCaravans x = Worlds.lakeAndMarket(10, 1, 2);
        x.caravan(0, 1, 1);
        Checks.due("nothing on the day it is told", x.knows(1, 1, false), NONE);
        Checks.giveOrders(x, 0, "load 8;go 1;sell 3;go 0");
        x.days(1);
        Checks.due("PRICE", x.knows(1, 1, false), 10);
        Checks.due("as of", x.knows(1, 1, true), 1);
        Checks.due("the one at the lake knows none", x.knows(0, 1, false), NONE);
        Checks.due("nor a day", x.knows(0, 1, true), NONE);
        Checks.due("a lake has no PRICE", x.knows(1, 0, false), NONE);
        x.days(2);
        Checks.due("it knows the PRICE ahead of the sell", x.knows(0, 1, false), 10);
        Checks.due("the PRICE behind it", x.look(1, 1), 7);
        x.days(1);
        Checks.due("the next day's", x.knows(0, 1, false), 8);
        Checks.due("as of", x.knows(0, 1, true), 4);
        x.days(1);
        Checks.due("away it knows what it knew", x.knows(0, 1, false), 8);
        Checks.due("as of the day it went", x.knows(0, 1, true), 4);
        Checks.due("the other one goes on", x.knows(1, 1, true), 5);
    }

    private static void lettersTellTheLatest() {
        SaltCaravans x = new SaltCaravans();
        x.station(Checks.TOWN, 0, 0, 0);
        x.station(Checks.MARKET, 10, 1, 0);
        x.station(Checks.MARKET, 30, 1, 0);
        x.stage(0, 1, 1);
        x.stage(0, 2, 2);
        x.caravan(0, 1, 1);
        x.caravan(0, 1, 2);
        x.caravan(0, 1, 0);
        x.caravan(0, 1, 1);
        Checks.giveOrders(x, 0, "go 0");
        Checks.giveOrders(x, 1, "go 0");
        Checks.giveOrders(x, 3, "wait 1;go 0");
        x.days(2);
        Checks.due("the one in town heard of market 1", x.knows(2, 1, true), 1);
        Checks.due("but not of market 2", x.knows(2, 2, true), NONE);
        x.days(1);
        for (int c = 0; c < 4; c++) {
            Checks.due("all know the latest of market 1: day", x.knows(c, 1, true), 2);
            Checks.due("all know the latest of market 1: price", x.knows(c, 1, false), 10);
            Checks.due("all know of market 2: day", x.knows(c, 2, true), 1);
            Checks.due("all know of market 2: price", x.knows(c, 2, false), 30);
        }
    }

    private static void lettersComeAheadOfOrders() {
        // The one that comes today brings a letter by which the other one goes today.
        SaltCaravans x = new SaltCaravans();
        x.station(Checks.TOWN, 0, 0, 0);
        x.station(Checks.MARKET, 10, 1, 0);
        x.stage(0, 1, 1);
        x.caravan(0, 1, 0);
        x.caravan(0, 1, 1);
        Checks.giveOrders(x, 0, "wait 1;if 1 > 9 go 1");
        Checks.giveOrders(x, 1, "go 0");
        x.days(2);
        Checks.due("it has set out", x.state(0, 0), 1);
    }
}

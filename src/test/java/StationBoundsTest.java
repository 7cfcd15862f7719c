/** Terms 1, sentence by sentence: the bounds of STATIONS, STAGES and CARAVANS, and of what a DAY does to them. */
public final class StationBoundsTest {
    private static final int NONE = SaltCaravans.NONE;

    public static void main(String[] args) {
        flowIsZeroToAThousand();
        roomIsOneToTenThousand();
        aWellFillsJustToItsRoom();
        peopleOfAWellAreZeroToThreeOrNone();
        topIsOneToAThousand();
        fallIsOneToAHundred();
        priceIsRoundedDown();
        priceIsZeroAtLeast();
        soldIsZeroAtLeast();
        daysOfAStageAreOneToNine();
        aStageGoesBothWays();
        camelsAreOneToFiveHundred();
        peopleOfACaravanAreZeroToThree();
        cameIsAtFirstTheDayItWasTold();
        waterThatJustReaches();
        halfOfWhatLacksIsRoundedUp();
        slabsAboveFourACamelAreLost();
        oneWithoutCamelsIsGone();
        goneDoesNothingAnyMore();
        comesOnTheLastDay();
        daysAreZeroToTwoHundred();
        lookOfEachSort();
        lostThatWay();
        Checks.finish();
    }

    /** 500 camels come to well 1 over nine days on day 10, today, and take 4500, as far as it has them. */
    private static SaltCaravans thirstyAtWell(int flow, int room) {
        SaltCaravans x = Worlds.towns(1);
        x.station(Checks.WELL, flow, room, NONE);
        x.stage(0, 1, 9);
        x.caravan(0, 500, 0);
        Checks.giveOrders(x, 0, "go 1");
        x.days(10);
        return x;
    }

    // "FLOW (0 to 1000) a day"
    private static void flowIsZeroToAThousand() {
        int[] flows = {0, 1, 999, 1000};
        for (int flow : flows) {
            SaltCaravans x = thirstyAtWell(flow, 10000);
            Checks.due("what 500 camels left", x.look(1, 1), 5500);
            x.days(1);
            Checks.due("a day more of FLOW " + flow, x.look(1, 1), 5500 + flow);
            x.days(2);
            Checks.due("three days more of FLOW " + flow, x.look(1, 1), 5500 + 3 * flow);
        }
    }

    // "ROOM (1 to 10000), full at first"
    private static void roomIsOneToTenThousand() {
        int[] rooms = {1, 2, 9999, 10000};
        for (int room : rooms) {
            SaltCaravans x = new SaltCaravans();
            x.station(Checks.WELL, 1000, room, NONE);
            Checks.due("full at first", x.look(0, 1), room);
            x.days(1);
            Checks.due("full and no more", x.look(0, 1), room);
        }
        SaltCaravans y = thirstyAtWell(0, 1);
        Checks.due("a well of ROOM 1 gives 1", y.state(0, 4), 501);
        Checks.due("and is empty", y.look(1, 1), 0);
    }

    // "Each WELL has FLOW more, ROOM at most"
    private static void aWellFillsJustToItsRoom() {
        int[] flows = {2, 3, 4, 1000};
        int[] want = {9, 10, 10, 10};
        for (int i = 0; i < flows.length; i++) {
            SaltCaravans x = Worlds.towns(1);
            x.station(Checks.WELL, flows[i], 10, NONE);
            x.stage(0, 1, 1);
            x.caravan(0, 3, 0);
            Checks.giveOrders(x, 0, "go 1");
            x.days(2);
            Checks.due("three of ten were taken", x.look(1, 1), 7);
            x.days(1);
            Checks.due("seven and FLOW " + flows[i], x.look(1, 1), want[i]);
        }
    }

    // "a PEOPLE (0 to 3) or none"
    private static void peopleOfAWellAreZeroToThreeOrNone() {
        int[] people = {NONE, 0, 1, 2, 3};
        int[] first = {0, 3, 2, 1, 0};
        for (int i = 0; i < people.length; i++) {
            SaltCaravans x = Worlds.towns(1);
            x.station(Checks.WELL, 0, 5, people[i]);
            x.stage(0, 1, 5);
            for (int c = 0; c < 4; c++) {
                x.caravan(3 - c, 1, 0);
                Checks.giveOrders(x, c, "go 1");
            }
            x.days(6);
            for (int c = 0; c < 4; c++) {
                Checks.due("well of " + people[i] + ", caravan " + c, x.state(c, 4), c == first[i] ? 10 : 5);
            }
        }
    }

    // "TOP (1 to 1000)"
    private static void topIsOneToAThousand() {
        int[] tops = {1, 2, 999, 1000};
        for (int top : tops) {
            SaltCaravans x = Worlds.soldToday(top, 1, 1);
            Checks.due("MONEY of the first slab", x.count(10), top);
            Checks.due("PRICE of the next", x.look(1, 1), top - 1);
            x.days(1);
            Checks.due("TOP again", x.look(1, 1), top);
        }
    }

    // "FALL (1 to 100)"
    private static void fallIsOneToAHundred() {
        int[] falls = {1, 2, 99, 100};
        for (int fall : falls) {
            Checks.due("one less than FALL sold", Worlds.soldToday(9, fall, fall - 1).look(1, 1), 9);
            Checks.due("FALL sold", Worlds.soldToday(9, fall, fall).look(1, 1), 8);
            Checks.due("MONEY of one more than FALL", Worlds.soldToday(9, fall, fall + 1).count(10), 9 * fall + 8);
        }
    }

    // "SOLD by FALL, rounded down"
    private static void priceIsRoundedDown() {
        int[] sold = {0, 1, 3, 4, 5, 7, 8, 11, 12};
        int[] want = {10, 10, 10, 9, 9, 9, 8, 8, 7};
        for (int i = 0; i < sold.length; i++) {
            SaltCaravans x = Worlds.soldToday(10, 4, sold[i]);
            Checks.due("SOLD", x.look(1, 2), sold[i]);
            Checks.due("PRICE behind " + sold[i], x.look(1, 1), want[i]);
        }
    }

    // "its PRICE is .. 0 at least"
    private static void priceIsZeroAtLeast() {
        int[] sold = {3, 4, 5, 6, 7, 8, 2000};
        int[] price = {2, 1, 1, 0, 0, 0, 0};
        int[] money = {8, 10, 11, 12, 12, 12, 12};
        for (int i = 0; i < sold.length; i++) {
            SaltCaravans x = Worlds.soldToday(3, 2, sold[i]);
            Checks.due("PRICE behind " + sold[i], x.look(1, 1), price[i]);
            Checks.due("MONEY of " + sold[i], x.count(10), money[i]);
            Checks.due("all are SOLD", x.look(1, 2), sold[i]);
        }
    }

    // "each MARKET's SOLD is FALL less, 0 at least"
    private static void soldIsZeroAtLeast() {
        int[] sold = {0, 1, 3, 4, 5, 8, 9};
        int[] want = {0, 0, 0, 0, 1, 4, 5};
        for (int i = 0; i < sold.length; i++) {
            SaltCaravans x = Worlds.soldToday(10, 4, sold[i]);
            x.days(1);
            Checks.due("SOLD a day behind " + sold[i], x.look(1, 2), want[i]);
        }
    }

    // "DAYS (1 to 9)"
    private static void daysOfAStageAreOneToNine() {
        for (int days = 1; days <= 9; days++) {
            SaltCaravans x = Worlds.towns(2);
            Checks.due("stage of " + days, x.stage(0, 1, days), 1);
            x.caravan(0, 1, 0);
            Checks.giveOrders(x, 0, "go 1");
            x.days(days);
            Checks.dueState("a day ahead of the last", x, 0, 1, 1, 1, 0, 11 - days, 1, 0, 1);
            x.days(1);
            Checks.dueState("on the last day", x, 0, 0, 1, 1, 0, 10, 0, 1 + days, 1);
        }
    }

    // "both ways; of several between the same two the first told counts"
    private static void aStageGoesBothWays() {
        SaltCaravans x = Worlds.towns(3);
        x.stage(2, 0, 9);
        x.stage(0, 2, 1);
        x.stage(2, 0, 1);
        x.stage(0, 1, 2);
        x.caravan(0, 1, 0);
        x.caravan(0, 1, 2);
        x.caravan(0, 1, 1);
        Checks.giveOrders(x, 0, "go 2");
        Checks.giveOrders(x, 1, "go 0");
        Checks.giveOrders(x, 2, "go 0");
        x.days(1);
        Checks.due("told the other way first", x.state(0, 5), 9);
        Checks.due("told this way first", x.state(1, 5), 9);
        Checks.due("another two", x.state(2, 5), 2);
    }

    // "CAMELS (1 to 500 at first), SLABS (at most 4 a CAMEL; 0 at first), WATER (at most 10 a CAMEL; as much at first)"
    private static void camelsAreOneToFiveHundred() {
        int[] camels = {1, 2, 499, 500};
        for (int n : camels) {
            SaltCaravans x = Worlds.lakeAndMarket(9, 9, n);
            Checks.dueState("at first", x, 0, 0, 0, n, 0, 10 * n, 0, 0, 0);
            Checks.giveOrders(x, 0, "load 999999;load 999999");
            x.days(1);
            Checks.due("4 a CAMEL", x.state(0, 3), 4 * n);
            Checks.due("WATER is not more by a day", x.state(0, 4), 10 * n);
            x.days(1);
            Checks.due("no more than 4 a CAMEL", x.state(0, 3), 4 * n);
            Checks.due("loaded in all", x.count(4), 4 * n);
        }
    }

    // "a PEOPLE (0 to 3)"
    private static void peopleOfACaravanAreZeroToThree() {
        SaltCaravans x = Worlds.towns(1);
        for (int people = 0; people < 4; people++) {
            Checks.due("caravan of " + people, x.caravan(people, 1, 0), people);
        }
    }

    // "CAME is the day on which it came where it is (at first the day on which it was told)"
    private static void cameIsAtFirstTheDayItWasTold() {
        SaltCaravans x = Worlds.towns(2);
        x.stage(0, 1, 3);
        x.caravan(0, 1, 0);
        x.days(200);
        x.caravan(0, 1, 1);
        Checks.due("told on day 0", x.state(0, 6), 0);
        Checks.due("told on day 200", x.state(1, 6), 200);
        Checks.giveOrders(x, 0, "go 1");
        x.days(3);
        Checks.due("on the way", x.state(0, 6), 0);
        x.days(1);
        Checks.due("where it came", x.state(0, 6), 204);
        x.days(5);
        Checks.due("where it stays", x.state(0, 6), 204);
    }

    /** Ten camels behind the well, on day 13, on which so many WATERS are lacking. */
    private static SaltCaravans lacking(int lacking, int slabs) {
        SaltCaravans x = Worlds.dryWay(10, 10 - lacking, "owner 1 lost tribe 1", "load " + slabs + ";go 1;go 2");
        x.days(12);
        Checks.due("WATER on day 12", x.state(0, 4), 10 - lacking);
        Checks.due("CAMELS on day 12", x.state(0, 2), 10);
        x.days(1);
        return x;
    }

    // "it needs a WATER for each CAMEL; what is lacking (as far as its WATER does not reach; WATER is 0 then)"
    private static void waterThatJustReaches() {
        SaltCaravans x = lacking(0, 40);
        Checks.dueState("WATER just reached", x, 0, 1, 2, 10, 40, 0, 7, 11, 3);
        Checks.due("none died", x.count(8), 0);
        Checks.due("none LOST", x.count(6), 0);
        SaltCaravans y = lacking(-1, 40);
        Checks.dueState("a WATER is left", y, 0, 1, 2, 10, 40, 1, 7, 11, 3);
        SaltCaravans z = lacking(1, 40);
        Checks.dueState("one was lacking", z, 0, 1, 2, 9, 36, 0, 7, 11, 3);
        Checks.due("one died", z.count(8), 1);
        x.days(1);
        Checks.dueState("ten are lacking on the next day", x, 0, 1, 2, 5, 20, 0, 6, 11, 3);
    }

    // "makes CAMELS die: a half of it, rounded up"
    private static void halfOfWhatLacksIsRoundedUp() {
        int[] lacking = {1, 2, 3, 4, 8, 9};
        int[] die = {1, 1, 2, 2, 4, 5};
        for (int i = 0; i < lacking.length; i++) {
            SaltCaravans x = lacking(lacking[i], 0);
            Checks.due("CAMELS, of which " + lacking[i] + " lacked WATER", x.state(0, 2), 10 - die[i]);
            Checks.due("died", x.count(8), die[i]);
        }
    }

    // "then SLABS above 4 a CAMEL are LOST there"
    private static void slabsAboveFourACamelAreLost() {
        int[] slabs = {0, 35, 36, 37, 38, 40};
        int[] lost = {0, 0, 0, 1, 2, 4};
        for (int i = 0; i < slabs.length; i++) {
            SaltCaravans x = lacking(1, slabs[i]);
            Checks.due("SLABS of nine CAMELS", x.state(0, 3), slabs[i] - lost[i]);
            Checks.due("LOST there", x.lost(1, 2), lost[i]);
            Checks.due("LOST in all", x.count(6), lost[i]);
            Checks.due("paid for", x.balance(0, 2, 13, 13), -lost[i]);
            Checks.due("an ENTRY if any was", x.count(9), lost[i] > 0 ? 1 : 0);
        }
    }

    // "and with no CAMELS it is GONE. Else a day less is to go"
    private static void oneWithoutCamelsIsGone() {
        SaltCaravans x = Worlds.dryWay(1, 1, "owner 1 lost driver 5", "load 4;go 1;go 2");
        x.days(13);
        Checks.dueState("the last WATER", x, 0, 1, 2, 1, 4, 0, 7, 11, 3);
        x.days(1);
        Checks.dueState("without CAMELS", x, 0, 2, 2, 0, 0, 0, 0, 11, 3);
        Checks.due("all SLABS are LOST", x.lost(1, 2), 4);
        Checks.due("and paid for", x.balance(0, 1, 14, 14), -20);
        SaltCaravans y = Worlds.dryWay(2, 2, "", "load 8;go 1;go 2");
        y.days(14);
        Checks.dueState("one CAMEL of two is left", y, 0, 1, 2, 1, 4, 0, 6, 11, 3);
        y.days(1);
        Checks.dueState("and that one dies", y, 0, 2, 2, 0, 0, 0, 0, 11, 3);
    }

    // "one without CAMELS is GONE and does nothing any more"
    private static void goneDoesNothingAnyMore() {
        SaltCaravans x = Worlds.dryWay(1, 1, "", "load 4;go 1;go 2");
        x.station(Checks.MARKET, 7, 1, 0);
        x.stage(2, 3, 1);
        x.caravan(0, 1, 3);
        x.days(15);
        x.caravan(0, 1, 2);
        Checks.giveOrders(x, 1, "go 2");
        Checks.giveOrders(x, 0, "load 4;again");
        x.days(10);
        Checks.dueState("ten days later", x, 0, 2, 2, 0, 0, 0, 0, 11, 0);
        Checks.due("the others had a letter", x.knows(2, 3, true), 16);
        Checks.due("which it did not have", x.knows(0, 3, true), NONE);
        Checks.due("it is not among those there", x.look(2, 3), 2);
        Checks.due("nothing is carried", x.count(7), 0);
        Checks.due("nothing more is LOST", x.count(6), 4);
        Checks.due("no CAMEL more died", x.count(8), 1);
    }

    // "with none it is at the STATION's end, CAME is TODAY", and takes part in the rest of that day
    private static void comesOnTheLastDay() {
        SaltCaravans x = Worlds.lakeAndMarket(9, 9, 2);
        Checks.giveOrders(x, 0, "load 3;go 1;sell 3;again");
        x.days(2);
        Checks.dueState("a day to go", x, 0, 1, 1, 2, 3, 20, 1, 0, 2);
        Checks.due("nobody there", x.look(1, 3), 0);
        x.days(1);
        Checks.dueState("it came, drank and sold", x, 0, 0, 1, 2, 0, 20, 0, 3, 3);
        Checks.due("it knows the PRICE ahead of its sell", x.knows(0, 1, false), 9);
        Checks.due("as of TODAY", x.knows(0, 1, true), 3);
        Checks.due("it is there", x.look(1, 3), 1);
    }

    // "So many DAYS: TODAY. IllegalArgumentException: not 0 to 200."
    private static void daysAreZeroToTwoHundred() {
        SaltCaravans x = Worlds.soldToday(9, 1, 50);
        Checks.due("days(0)", x.days(0), 3);
        Checks.due("nothing happened", x.look(1, 2), 50);
        Checks.due("days(1)", x.days(1), 4);
        Checks.due("one day happened", x.look(1, 2), 49);
        Checks.due("days(199)", x.days(199), 203);
        Checks.due("days(200)", x.days(200), 403);
        SaltCaravans y = Worlds.soldToday(9, 1, 500);
        y.days(200);
        Checks.due("each of 200 days happened", y.look(1, 2), 300);
    }

    // "1 of a WELL what it has, of a MARKET its PRICE, else 0, 2 SOLD (0 of another one)"
    private static void lookOfEachSort() {
        int[][] want = {{0, 0, 0, 0}, {1, 0, 0, 0}, {2, 60, 0, 0}, {3, 50, 0, 0}};
        SaltCaravans x = new SaltCaravans();
        for (int sort = 0; sort < 4; sort++) {
            x.station(sort, 50, 60, 3);
        }
        for (int sort = 0; sort < 4; sort++) {
            for (int what = 0; what < 4; what++) {
                Checks.due("look " + sort + " " + what, x.look(sort, what), want[sort][what]);
            }
        }
        x.days(1);
        for (int sort = 0; sort < 4; sort++) {
            for (int what = 0; what < 4; what++) {
                Checks.due("a day later look " + sort + " " + what, x.look(sort, what), want[sort][what]);
            }
        }
    }

    // "SLABS LOST on STAGES from a STATION to another one, that way, by all CARAVANS"
    private static void lostThatWay() {
        SaltCaravans x = Worlds.dryWay(10, 1, "", "load 40;go 1;go 2;go 1;go 0");
        x.days(200);
        // Nine lack WATER on day 13: 5 die, then 3 of 5, 1 of 2, and the last one: none comes to the town.
        Checks.due("where it died", x.lost(1, 2), 40);
        int[][] none = {{0, 0}, {0, 1}, {0, 2}, {1, 0}, {1, 1}, {2, 0}, {2, 1}, {2, 2}};
        for (int[] way : none) {
            Checks.due("lost from " + way[0] + " to " + way[1], x.lost(way[0], way[1]), 0);
        }
    }
}

/** Terms 1, (d) and (e) of a DAY: who knows what by LETTERS, and who drinks when there is too little. */
public final class TurnsBoundsTest {
    private static final int NONE = SaltCaravans.NONE;
    private static final int[] ZERO_OR_ONE = {0, 1, 0, 1, 0, 1, 0, 1, 0, 1, 0, 1};

    public static void main(String[] args) {
        lettersOfTheFirstAndTheLastStation();
        theOlderLetterDoesNotCount();
        aPriceOfNothingIsKnown();
        nothingIsHeardOnAStage();
        nothingIsHeardElsewhere();
        aPriceIsKnownOnADay();
        aWellThatHasJustEnough();
        anEmptyWell();
        theOwnAheadOfThoseThatCameEarlier();
        theEarlierAheadOfLowerNumbers();
        theLaterBehindWhoeverIsStillThirsty();
        twelveThatCameAtOnce();
        twelveThatCameOnTwoDays();
        twelveWithOneLetter();
        Checks.finish();
    }

    private static void dueKnows(SaltCaravans x, int caravan, int station, int price, int day) {
        String who = "caravan " + caravan + " of station " + station;
        Checks.due(who + ": PRICE", x.knows(caravan, station, false), price);
        Checks.due(who + ": as of", x.knows(caravan, station, true), day);
    }

    // "all at one STATION know, of each MARKET, the latest that one of them knew": of the MARKETS 0 and 11 too
    private static void lettersOfTheFirstAndTheLastStation() {
        SaltCaravans x = new SaltCaravans();
        x.station(Checks.MARKET, 40, 1, 0);
        for (int i = 1; i < 11; i++) {
            x.station(Checks.TOWN, 0, 0, 0);
        }
        x.station(Checks.MARKET, 50, 1, 0);
        x.stage(0, 5, 1);
        x.stage(11, 5, 1);
        x.caravan(0, 1, 5);
        x.caravan(0, 1, 0);
        x.caravan(0, 1, 11);
        Checks.giveOrders(x, 1, "go 5");
        Checks.giveOrders(x, 2, "go 5");
        x.days(2);
        for (int c = 0; c < 3; c++) {
            dueKnows(x, c, 0, 40, 1);
            dueKnows(x, c, 11, 50, 1);
            dueKnows(x, c, 5, NONE, NONE);
        }
    }

    // "the latest that one of them knew": neither the first told nor the last told, but the latest day
    private static void theOlderLetterDoesNotCount() {
        for (int late = 0; late < 2; late++) {
            SaltCaravans x = Worlds.towns(1);
            x.station(Checks.MARKET, 9, 2, 0);
            x.station(Checks.LAKE, 0, 0, 0);
            x.stage(0, 1, 1);
            x.stage(1, 2, 1);
            x.caravan(0, 1, 1);
            x.caravan(0, 1, 1);
            x.caravan(0, 9, 2);
            // On day 3 SOLD is 4: the PRICE is 9 on days 1 to 3 and 8 on day 4.
            Checks.giveOrders(x, 2, "load 4;go 1;sell 4");
            Checks.giveOrders(x, late, "wait 3;go 0");
            Checks.giveOrders(x, 1 - late, "go 0");
            x.days(3);
            dueKnows(x, late, 1, 9, 3);
            dueKnows(x, 1 - late, 1, 9, 1);
            x.days(2);
            dueKnows(x, late, 1, 8, 4);
            dueKnows(x, 1 - late, 1, 8, 4);
        }
    }

    // "NONE if it knows none": a PRICE of 0 is a PRICE
    private static void aPriceOfNothingIsKnown() {
        SaltCaravans x = Worlds.soldToday(1, 1, 9);
        dueKnows(x, 0, 1, 1, 3);
        x.days(1);
        dueKnows(x, 0, 1, 0, 4);
        dueKnows(x, 0, 0, NONE, NONE);
    }

    // "all at one STATION": not those on the way there, together or towards one another
    private static void nothingIsHeardOnAStage() {
        SaltCaravans x = Worlds.towns(1);
        x.station(Checks.MARKET, 9, 1, 0);
        x.stage(0, 1, 4);
        x.caravan(0, 1, 0);
        x.caravan(0, 1, 1);
        Checks.giveOrders(x, 0, "go 1");
        Checks.giveOrders(x, 1, "go 0");
        x.days(4);
        dueKnows(x, 0, 1, NONE, NONE);
        dueKnows(x, 1, 1, 9, 1);
        x.days(1);
        dueKnows(x, 0, 1, 9, 5);
        dueKnows(x, 1, 1, 9, 1);
    }

    // A letter goes no further than the station where it is told that day.
    private static void nothingIsHeardElsewhere() {
        SaltCaravans x = Worlds.towns(2);
        x.station(Checks.MARKET, 9, 1, 0);
        x.stage(0, 2, 1);
        x.stage(0, 1, 1);
        x.caravan(0, 1, 1);
        x.caravan(0, 1, 0);
        x.caravan(0, 1, 2);
        Checks.giveOrders(x, 2, "go 0");
        Checks.giveOrders(x, 1, "wait 2;go 1");
        x.days(2);
        dueKnows(x, 1, 2, 9, 1);
        dueKnows(x, 0, 2, NONE, NONE);
        x.days(1);
        dueKnows(x, 0, 2, NONE, NONE);
        x.days(1);
        dueKnows(x, 0, 2, 9, 1);
    }

    // "each CARAVAN at a MARKET knows its PRICE just now, as of TODAY": on a DAY, not when it is told
    private static void aPriceIsKnownOnADay() {
        SaltCaravans x = Worlds.lakeAndMarket(9, 1, 1);
        x.caravan(0, 1, 1);
        dueKnows(x, 1, 1, NONE, NONE);
        x.days(0);
        dueKnows(x, 1, 1, NONE, NONE);
        x.days(1);
        dueKnows(x, 1, 1, 9, 1);
        dueKnows(x, 0, 1, NONE, NONE);
    }

    /** Caravans of one camel each set out for well 1 from town 0, five days away, caravan c on day 1 + wait[c]. */
    private static SaltCaravans toWell(int flow, int room, int people, int[] caravanPeople, int[] wait) {
        SaltCaravans x = Worlds.towns(1);
        x.station(Checks.WELL, flow, room, people);
        x.stage(0, 1, 5);
        for (int c = 0; c < wait.length; c++) {
            x.caravan(caravanPeople[c], 1, 0);
            Checks.giveOrders(x, c, wait[c] == 0 ? "go 1" : "wait " + wait[c] + ";go 1");
        }
        return x;
    }

    private static void dueWater(String when, SaltCaravans x, int... want) {
        for (int c = 0; c < want.length; c++) {
            Checks.due(when + ": WATER of caravan " + c, x.state(c, 4), want[c]);
        }
    }

    // "each take as much as they have room for, and as there is": they have room for ten
    private static void aWellThatHasJustEnough() {
        int[] rooms = {1, 4, 5, 6, 9, 10, 11};
        int[] first = {6, 9, 10, 10, 10, 10, 10};
        int[] second = {5, 5, 5, 6, 9, 10, 10};
        int[] left = {0, 0, 0, 0, 0, 0, 1};
        for (int i = 0; i < rooms.length; i++) {
            SaltCaravans x = toWell(0, rooms[i], NONE, new int[2], new int[2]);
            x.days(6);
            dueWater("ROOM " + rooms[i], x, first[i], second[i]);
            Checks.due("what is left of " + rooms[i], x.look(1, 1), left[i]);
        }
    }

    private static void anEmptyWell() {
        SaltCaravans x = toWell(0, 5, NONE, new int[3], new int[] {0, 0, 2});
        x.days(6);
        dueWater("the first one took all", x, 10, 5);
        x.days(5);
        dueWater("nothing comes any more", x, 10, 5, 5);
        Checks.due("it is empty", x.look(1, 1), 0);
        SaltCaravans y = toWell(1, 5, NONE, new int[2], new int[2]);
        y.days(6);
        dueWater("a well with FLOW", y, 10, 5);
        y.days(1);
        dueWater("a WATER came", y, 10, 6);
        Checks.due("and went", y.look(1, 1), 0);
    }

    // "its own PEOPLE's CARAVANS first, then the others, of both the one that CAME earlier, then by numbers"
    private static void theOwnAheadOfThoseThatCameEarlier() {
        // All need five. Caravans 0, 1 are others, 2, 3, 4 are own; they come on the days 6, 7, 8, 7, 8.
        SaltCaravans x = toWell(5, 5, 2, new int[] {0, 3, 2, 2, 2}, new int[] {0, 1, 2, 1, 2});
        x.days(6);
        dueWater("alone there", x, 10, 6, 7, 6, 7);
        x.days(1);
        dueWater("the own one ahead", x, 10, 5, 6, 10, 6);
        x.days(1);
        dueWater("of the own ones the lower number", x, 10, 5, 10, 10, 5);
        x.days(1);
        dueWater("an own one that came later than another", x, 10, 5, 10, 10, 10);
        x.days(1);
        dueWater("the other one at last", x, 10, 10, 10, 10, 10);
    }

    private static void theEarlierAheadOfLowerNumbers() {
        // The higher the number the earlier it comes: on the days 8, 7, 6 and 6.
        SaltCaravans x = toWell(5, 5, NONE, new int[4], new int[] {2, 1, 0, 0});
        x.days(6);
        dueWater("of two that came as early the lower number", x, 7, 6, 10, 5);
        x.days(1);
        dueWater("the one that came earlier", x, 6, 5, 10, 10);
        x.days(1);
        dueWater("then the next", x, 5, 10, 10, 10);
        x.days(1);
        dueWater("the last that came", x, 10, 10, 10, 10);
        // The same with too little for one a day: what is left goes to the next in line.
        SaltCaravans y = toWell(3, 3, NONE, new int[4], new int[] {2, 1, 0, 0});
        int[][] want = {
            {7, 6, 8, 5}, {6, 5, 10, 6}, {5, 5, 10, 9}, {5, 7, 10, 10}, {5, 10, 10, 10}, {8, 10, 10, 10},
            {10, 10, 10, 10},
        };
        y.days(5);
        for (int i = 0; i < want.length; i++) {
            y.days(1);
            dueWater("day " + (6 + i), y, want[i]);
        }
    }

    // "the one that CAME earlier": one that comes later takes nothing ahead of it, while it still has room
    private static void theLaterBehindWhoeverIsStillThirsty() {
        int[][] want = {{8, 6, 7}, {10, 6, 6}, {10, 9, 5}, {10, 10, 7}, {10, 10, 10}};
        int[] wellPeople = {NONE, 0, 1};
        for (int people : wellPeople) {
            // All are of the PEOPLE 0: all own, or none.
            SaltCaravans x = toWell(3, 3, people, new int[3], new int[] {0, 1, 2});
            x.days(5);
            for (int i = 0; i < want.length; i++) {
                x.days(1);
                dueWater("well of " + people + ", day " + (6 + i), x, want[i]);
            }
        }
    }

    // Twelve CARAVANS at one well that came at once: the own ones by numbers, then the others
    private static void twelveThatCameAtOnce() {
        int[] line = {1, 3, 5, 7, 9, 11, 0, 2, 4, 6, 8, 10};
        for (int enough = 0; enough <= 12; enough++) {
            SaltCaravans x = toWell(0, 1 + 5 * enough, 1, ZERO_OR_ONE, new int[12]);
            x.days(6);
            dueLine("enough for " + enough, x, line, enough, 1);
        }
    }

    // Twelve that came on two days, and one a day can drink
    private static void twelveThatCameOnTwoDays() {
        int[] wait = {1, 1, 0, 0, 1, 1, 0, 0, 1, 1, 0, 0};
        int[] line = {3, 7, 11, 1, 5, 9, 2, 6, 10, 0, 4, 8};
        SaltCaravans x = toWell(5, 5, 1, ZERO_OR_ONE, wait);
        x.days(6);
        Checks.due("the first in line", x.state(line[0], 4), 10);
        for (int full = 2; full <= 12; full++) {
            x.days(1);
            dueLine("day " + (5 + full), x, line, full, 0);
        }
    }

    /** The first ones of a line, as many as there was enough for, are full; the next one has the rest. */
    private static void dueLine(String when, SaltCaravans x, int[] line, int enough, int rest) {
        for (int i = 0; i < line.length; i++) {
            int want = i < enough ? 10 : i == enough ? 5 + rest : 5;
            Checks.due(when + ": WATER of caravan " + line[i], x.state(line[i], 4), want);
        }
    }

    private static void twelveWithOneLetter() {
        for (int teller = 0; teller < 12; teller++) {
            SaltCaravans x = Worlds.towns(11);
            x.station(Checks.MARKET, 30, 1, 0);
            x.stage(11, 0, 1);
            for (int c = 0; c < 12; c++) {
                x.caravan(0, 1, c == teller ? 11 : 0);
            }
            Checks.giveOrders(x, teller, "go 0");
            x.days(1);
            Checks.due("eleven are in town", x.look(0, 3), 11);
            x.days(1);
            Checks.due("twelve are in town", x.look(0, 3), 12);
            for (int c = 0; c < 12; c++) {
                dueKnows(x, c, 11, 30, 1);
            }
        }
    }
}

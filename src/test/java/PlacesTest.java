/** Promises 4, 5 and 6: station, stage and caravan. */
public final class PlacesTest {
    private static final int LEAST = Integer.MIN_VALUE;
    private static final int MOST = Integer.MAX_VALUE;

    public static void main(String[] args) {
        stationsOfEachSort();
        boundsOfAStation();
        twelveStations();
        stagesAreCounted();
        thirtyStages();
        theFirstStageCounts();
        aNewCaravan();
        twelveCaravans();
        Checks.finish();
    }

    private static void stationsOfEachSort() {
        SaltCaravans x = new SaltCaravans();
        // What a town, a lake or a market does not have counts for nothing.
        Checks.due("town", x.station(0, LEAST, MOST, -7), 0);
        Checks.due("lake", x.station(1, -1, -1, -1), 1);
        Checks.due("well", x.station(2, 5, 70, 3), 2);
        Checks.due("market", x.station(3, 9, 4, 1000), 3);
        Checks.due("how many", x.count(1), 4);
        for (int s = 0; s < 4; s++) {
            Checks.due("SORT", x.look(s, 0), s);
        }
        Checks.due("a well is full at first", x.look(2, 1), 70);
        Checks.due("PRICE at first", x.look(3, 1), 9);
        Checks.due("SOLD at first", x.look(3, 2), 0);
    }

    private static void boundsOfAStation() {
        int[][] right = {
            {0, LEAST, MOST, LEAST}, {1, MOST, LEAST, MOST}, {2, 0, 1, -1}, {2, 1000, 10000, 0}, {2, 0, 10000, 3},
            {3, 1, 1, LEAST}, {3, 1000, 100, MOST}, {3, 1, 100, -1}, {3, 1000, 1, 4},
        };
        SaltCaravans x = new SaltCaravans();
        for (int i = 0; i < right.length; i++) {
            int[] a = right[i];
            Checks.due("right station", x.station(a[0], a[1], a[2], a[3]), i);
        }
        Checks.due("all are there", x.count(1), right.length);
    }

    private static void twelveStations() {
        SaltCaravans x = new SaltCaravans();
        for (int i = 0; i < 12; i++) {
            Checks.due("station", x.station(3, 10 + i, 1, 0), i);
        }
        Checks.dueThrow("13th station", Checks.FULL, () -> x.station(0, 0, 0, 0));
        Checks.dueThrow("13th station, and wrong", Checks.ARGUMENT, () -> x.station(4, 0, 0, 0));
        Checks.due("how many", x.count(1), 12);
        Checks.due("the last one", x.look(11, 1), 21);
        Checks.dueThrow("look at a 13th", Checks.INDEX, () -> x.look(12, 0));
    }

    private static void stagesAreCounted() {
        SaltCaravans x = Worlds.towns(3);
        Checks.due("first", x.stage(0, 1, 1), 1);
        Checks.due("second", x.stage(1, 2, 9), 2);
        Checks.due("the same again", x.stage(0, 1, 1), 3);
        Checks.due("the other way", x.stage(1, 0, 2), 4);
        Checks.due("count", x.count(2), 4);
    }

    private static void thirtyStages() {
        SaltCaravans x = Worlds.towns(2);
        for (int i = 1; i <= 30; i++) {
            Checks.due("stage", x.stage(0, 1, 1 + i % 9), i);
        }
        Checks.dueThrowAndStay(x, "31st stage", Checks.FULL, () -> x.stage(0, 1, 1));
        Checks.dueThrow("31st stage, of one station", Checks.ARGUMENT, () -> x.stage(0, 0, 1));
        Checks.dueThrow("31st stage, to none", Checks.INDEX, () -> x.stage(0, 2, 1));
        Checks.due("count", x.count(2), 30);
    }

    private static void theFirstStageCounts() {
        SaltCaravans x = Worlds.towns(3);
        x.stage(0, 1, 4);
        x.stage(0, 1, 2);
        x.stage(1, 0, 3);
        x.caravan(0, 1, 0);
        x.caravan(0, 1, 1);
        Checks.giveOrders(x, 0, "go 1");
        Checks.giveOrders(x, 1, "go 0");
        x.days(1);
        Checks.due("the first told, one way", x.state(0, 5), 4);
        Checks.due("the first told, the other way", x.state(1, 5), 4);
        // A stage that is told when there are 30 is none.
        SaltCaravans y = Worlds.towns(3);
        for (int i = 0; i < 30; i++) {
            y.stage(0, 1, 1);
        }
        Checks.dueThrow("31st", Checks.FULL, () -> y.stage(0, 2, 1));
        y.caravan(0, 1, 0);
        Checks.giveOrders(y, 0, "go 2");
        y.days(1);
        Checks.due("no way there", y.state(0, 0), 0);
    }

    private static void aNewCaravan() {
        SaltCaravans x = Worlds.towns(3);
        x.days(7);
        Checks.due("caravan", x.caravan(3, 500, 2), 0);
        Checks.due("next caravan", x.caravan(0, 1, 0), 1);
        int[] want = {0, 2, 500, 0, 5000, 0, 7, 0};
        for (int what = 0; what < 8; what++) {
            Checks.due("state of a new caravan " + what, x.state(0, what), want[what]);
        }
        Checks.due("WATER of one CAMEL", x.state(1, 4), 10);
        Checks.due("how many", x.count(3), 2);
        Checks.due("how many there", x.look(2, 3), 1);
        Checks.due("it knows nothing", x.knows(0, 1, false), SaltCaravans.NONE);
        Checks.due("as of no day", x.knows(0, 1, true), SaltCaravans.NONE);
    }

    private static void twelveCaravans() {
        SaltCaravans x = Worlds.towns(1);
        for (int i = 0; i < 12; i++) {
            Checks.due("caravan", x.caravan(i % 4, i + 1, 0), i);
        }
        Checks.dueThrow("13th caravan", Checks.FULL, () -> x.caravan(0, 1, 0));
        Checks.dueThrow("13th caravan, wrong", Checks.ARGUMENT, () -> x.caravan(0, 0, 0));
        Checks.dueThrow("13th caravan, at none", Checks.INDEX, () -> x.caravan(0, 0, 1));
        Checks.due("how many", x.count(3), 12);
        Checks.due("CAMELS of the last one", x.state(11, 2), 12);
        Checks.due("how many there", x.look(0, 3), 12);
    }
}

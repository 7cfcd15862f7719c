/** Promises 4, 5 and 6: station, stage and caravan. */
public final class PlacesTest {
    private static final int LEAST = Integer.MIN_VALUE;
    private static final int MOST = Integer.MAX_VALUE;

    public static void main(String[] args) {
        stationsOfEachSort();
        boundsOfAStation();
        twelveStations();
        stagesAreCounted();
        wrongStages();
        thirtyStages();
        theFirstStageCounts();
        aNewCaravan();
        wrongCaravans();
        twelveCaravans();
        Checks.finish();
    }

    private static void stationsOfEachSort() {
        SaltCaravans x = new SaltCaravans();
        // What a town, a lake or a market does not have counts for nothing.
        Checks.due("town", x.station(0, LEAST, MOST, -7), 0);
        Checks.due("lake", x.station(1, -1, -1, -1), 1);
        Checks.due("well", x.station(2, 5, 70, 3), 2);
        Checks.due("market", x.station(3, 9, 4, 1000), 3);
        Checks.due("how many", x.count(1), 4);
        for (int s = 0; s < 4; s++) {
            Checks.due("SORT", x.look(s, 0), s);
        }
        Checks.due("a well is full at first", x.look(2, 1), 70);
        Checks.due("PRICE at first", x.look(3, 1), 9);
        Checks.due("SOLD at first", x.look(3, 2), 0);
    }

    private static void boundsOfAStation() {
        int[][] right = {
            {2, 0, 1, -1}, {2, 1000, 10000, 0}, {2, 0, 10000, 3}, {3, 1, 1, 0}, {3, 1000, 100, 0},
            {0, 0, 0, 0}, {1, 0, 0, 0},
        };
        int[][] wrong = {
            {-1, 1, 1, 1}, {4, 1, 1, 1}, {LEAST, 1, 1, 1}, {MOST, 1, 1, 1},
            {2, -1, 1, 0}, {2, 1001, 1, 0}, {2, 0, 0, 0}, {2, 0, 10001, 0}, {2, 0, 1, -2}, {2, 0, 1, 4},
            {3, 0, 1, 0}, {3, 1001, 1, 0}, {3, 1, 0, 0}, {3, 1, 101, 0}, {3, LEAST, 1, 0}, {3, 1, MOST, 0},
        };
        SaltCaravans x = new SaltCaravans();
        for (int i = 0; i < right.length; i++) {
            int[] a = right[i];
            Checks.due("right station", x.station(a[0], a[1], a[2], a[3]), i);
        }
        for (int[] a : wrong) {
            Checks.dueThrow("station " + a[0] + " " + a[1] + " " + a[2] + " " + a[3], Checks.ARGUMENT,
                    () -> x.station(a[0], a[1], a[2], a[3]));
        }
        Checks.due("wrong stations are not there", x.count(1), right.length);
    }

    private static void twelveStations() {
        SaltCaravans x = new SaltCaravans();
        for (int i = 0; i < 12; i++) {
            Checks.due("station", x.station(3, 10 + i, 1, 0), i);
        }
        Checks.dueThrow("13th station", Checks.FULL, () -> x.station(0, 0, 0, 0));
        Checks.dueThrow("13th station, and wrong", Checks.ARGUMENT, () -> x.station(4, 0, 0, 0));
        Checks.due("how many", x.count(1), 12);
        Checks.due("the last one", x.look(11, 1), 21);
        Checks.dueThrow("look at a 13th", Checks.INDEX, () -> x.look(12, 0));
    }

    private static SaltCaravans withTowns(int n) {
        SaltCaravans x = new SaltCaravans();
        for (int i = 0; i < n; i++) {
            x.station(Checks.TOWN, 0, 0, 0);
        }
        return x;
    }

    private static void stagesAreCounted() {
        SaltCaravans x = withTowns(3);
        Checks.due("first", x.stage(0, 1, 1), 1);
        Checks.due("second", x.stage(1, 2, 9), 2);
        Checks.due("the same again", x.stage(0, 1, 1), 3);
        Checks.due("the other way", x.stage(1, 0, 2), 4);
        Checks.due("count", x.count(2), 4);
    }

    private static SaltCaravans withStage() {
        SaltCaravans x = withTowns(2);
        x.stage(0, 1, 3);
        return x;
    }

    private static void wrongStages() {
        int[][] noStation = {{-1, 0, 1}, {0, -1, 1}, {2, 0, 1}, {0, 2, 1}, {2, 2, 0}, {LEAST, MOST, 0}, {0, 12, 1}};
        int[][] wrong = {{0, 0, 1}, {1, 1, 0}, {0, 1, 0}, {0, 1, 10}, {1, 0, -1}, {0, 1, MOST}, {0, 1, LEAST}};
        for (int[] a : noStation) {
            SaltCaravans x = withStage();
            Checks.dueThrowAndStay(x, "stage " + a[0] + " " + a[1], Checks.INDEX, () -> x.stage(a[0], a[1], a[2]));
        }
        for (int[] a : wrong) {
            SaltCaravans x = withStage();
            Checks.dueThrowAndStay(x, "stage of " + a[2], Checks.ARGUMENT, () -> x.stage(a[0], a[1], a[2]));
        }
    }

    private static void thirtyStages() {
        SaltCaravans x = withTowns(2);
        for (int i = 1; i <= 30; i++) {
            Checks.due("stage", x.stage(0, 1, 1 + i % 9), i);
        }
        Checks.dueThrowAndStay(x, "31st stage", Checks.FULL, () -> x.stage(0, 1, 1));
        Checks.dueThrow("31st stage, of one station", Checks.ARGUMENT, () -> x.stage(0, 0, 1));
        Checks.dueThrow("31st stage, to none", Checks.INDEX, () -> x.stage(0, 2, 1));
        Checks.due("count", x.count(2), 30);
    }

    private static void theFirstStageCounts() {
        SaltCaravans x = withTowns(3);
        x.stage(0, 1, 4);
        x.stage(0, 1, 2);
        x.stage(1, 0, 3);
        x.caravan(0, 1, 0);
        x.caravan(0, 1, 1);
        Checks.giveOrders(x, 0, "go 1");
        Checks.giveOrders(x, 1, "go 0");
        x.days(1);
        Checks.due("the first told, one way", x.state(0, 5), 4);
        Checks.due("the first told, the other way", x.state(1, 5), 4);
        // A stage that is told when there are 30 is none.
        SaltCaravans y = withTowns(3);
        for (int i = 0; i < 30; i++) {
            y.stage(0, 1, 1);
        }
        Checks.dueThrow("31st", Checks.FULL, () -> y.stage(0, 2, 1));
        y.caravan(0, 1, 0);
        Checks.giveOrders(y, 0, "go 2");
        y.days(1);
        Checks.due("no way there", y.state(0, 0), 0);
    }

    private static void aNewCaravan() {
        SaltCaravans x = withTowns(3);
        x.days(7);
        Checks.due("caravan", x.caravan(3, 500, 2), 0);
        Checks.due("next caravan", x.caravan(0, 1, 0), 1);
        int[] want = {0, 2, 500, 0, 5000, 0, 7, 0};
        for (int what = 0; what < 8; what++) {
            Checks.due("state of a new caravan " + what, x.state(0, what), want[what]);
        }
        Checks.due("WATER of one CAMEL", x.state(1, 4), 10);
        Checks.due("how many", x.count(3), 2);
        Checks.due("how many there", x.look(2, 3), 1);
        Checks.due("it knows nothing", x.knows(0, 1, false), SaltCaravans.NONE);
        Checks.due("as of no day", x.knows(0, 1, true), SaltCaravans.NONE);
    }

    private static SaltCaravans withCaravan() {
        SaltCaravans x = withTowns(2);
        x.caravan(1, 5, 1);
        return x;
    }

    private static void wrongCaravans() {
        int[][] noStation = {{0, 1, 2}, {0, 1, -1}, {9, 0, 2}, {0, 1, MOST}, {0, 1, LEAST}};
        int[][] wrong = {{-1, 1, 0}, {4, 1, 0}, {0, 0, 0}, {0, 501, 0}, {0, -5, 1}, {LEAST, 1, 0}, {0, MOST, 0}};
        for (int[] a : noStation) {
            SaltCaravans x = withCaravan();
            Checks.dueThrowAndStay(x, "caravan at " + a[2], Checks.INDEX, () -> x.caravan(a[0], a[1], a[2]));
        }
        for (int[] a : wrong) {
            SaltCaravans x = withCaravan();
            Checks.dueThrowAndStay(x, "caravan " + a[0] + " " + a[1], Checks.ARGUMENT,
                    () -> x.caravan(a[0], a[1], a[2]));
            Checks.due("the next right one", x.caravan(2, 1, 0), 1);
        }
    }

    private static void twelveCaravans() {
        SaltCaravans x = withTowns(1);
        for (int i = 0; i < 12; i++) {
            Checks.due("caravan", x.caravan(i % 4, i + 1, 0), i);
        }
        Checks.dueThrow("13th caravan", Checks.FULL, () -> x.caravan(0, 1, 0));
        Checks.dueThrow("13th caravan, wrong", Checks.ARGUMENT, () -> x.caravan(0, 0, 0));
        Checks.dueThrow("13th caravan, at none", Checks.INDEX, () -> x.caravan(0, 0, 1));
        Checks.due("how many", x.count(3), 12);
        Checks.due("CAMELS of the last one", x.state(11, 2), 12);
        Checks.due("how many there", x.look(0, 3), 12);
    }
}

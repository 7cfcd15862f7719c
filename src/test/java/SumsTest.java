/** Promises 18 and 19: split and count. */
public final class SumsTest {
    public static void main(String[] args) {
        splitWithoutMarkets();
        splitOfOneMarket();
        splitOfSeveralMarkets();
        splitOfWhatWasSold();
        splitOfMuch();
        countsOfARun();
        Checks.finish();
    }

    private static void splitWithoutMarkets() {
        SaltCaravans x = new SaltCaravans();
        Checks.due("nothing there", x.split(5000), 0);
        x.station(Checks.LAKE, 9, 9, 9);
        x.station(Checks.WELL, 9, 9, 3);
        Checks.due("no market", x.split(5000), 0);
    }

    private static void splitOfOneMarket() {
        SaltCaravans x = new SaltCaravans();
        x.station(Checks.MARKET, 5, 3, 0);
        int[] want = {0, 5, 10, 15, 19, 23, 27, 30, 33, 36, 38, 40, 42, 43, 44, 45, 45, 45};
        for (int i = 0; i < want.length; i++) {
            Checks.due("split " + i, x.split(i), want[i]);
        }
        Checks.due("split 5000", x.split(5000), 45);
    }

    private static void splitOfSeveralMarkets() {
        SaltCaravans x = new SaltCaravans();
        x.station(Checks.MARKET, 10, 1, 0);
        x.station(Checks.TOWN, 0, 0, 0);
        x.station(Checks.MARKET, 9, 2, 0);
        x.station(Checks.MARKET, 2, 100, 0);
        // 10, 9 9 9, 8 8 8, 7 7 7 and so on down to 3, then 2 for very many.
        int[] want = {0, 10, 19, 28, 37, 45, 53, 61, 68, 75, 82};
        for (int i = 0; i < want.length; i++) {
            Checks.due("split " + i, x.split(i), want[i]);
        }
        Checks.due("down to 3", x.split(22), 10 + 3 * (9 + 8 + 7 + 6 + 5 + 4 + 3));
        Checks.due("down to 2", x.split(22 + 103), 10 + 3 * 42 + 2 * 103);
        Checks.due("one for 1", x.split(22 + 103 + 1), 10 + 3 * 42 + 2 * 103 + 1);
        Checks.due("all", x.split(5000), 10 + 3 * 42 + 2 * 103 + 103);
        Checks.due("nothing happened", x.look(0, 2), 0);
    }

    private static void splitOfWhatWasSold() {
        SaltCaravans x = new SaltCaravans();
        x.station(Checks.LAKE, 0, 0, 0);
        x.station(Checks.MARKET, 6, 4, 0);
        x.station(Checks.MARKET, 4, 1, 0);
        x.stage(0, 1, 1);
        x.caravan(0, 9, 0);
        Checks.giveOrders(x, 0, "load 36;go 1;sell 7;sell 29");
        x.days(3);
        // Market 1 goes on behind 7: 5, 4 4 4 4, 3 3 ..; market 2: 4, 3, 2, 1.
        Checks.due("the best one", x.split(1), 5);
        Checks.due("six", x.split(6), 5 + 5 * 4);
        Checks.due("seven", x.split(7), 5 + 5 * 4 + 3);
        x.days(1);
        Checks.due("market 1 is empty: PRICE", x.look(1, 1), 0);
        Checks.due("market 2 alone", x.split(5000), 10);
    }

    private static void splitOfMuch() {
        SaltCaravans x = new SaltCaravans();
        for (int i = 0; i < 12; i++) {
            x.station(Checks.MARKET, 1000, 100, 0);
        }
        Checks.due("split 1200", x.split(1200), 1200000);
        Checks.due("split 5000", x.split(5000), 1200 * (1000 + 999 + 998 + 997) + 200 * 996);
        SaltCaravans y = new SaltCaravans();
        y.station(Checks.MARKET, 1000, 1, 0);
        Checks.due("each slab for less", y.split(1000), 500500);
        Checks.due("all slabs for less", y.split(5000), 500500);
        Checks.due("but for one", y.split(999), 500499);
    }

    private static void countsOfARun() {
        SaltCaravans x = new SaltCaravans();
        x.station(Checks.LAKE, 0, 0, 0);
        x.station(Checks.MARKET, 10, 1, 0);
        x.station(Checks.WELL, 0, 1, SaltCaravans.NONE);
        x.stage(0, 1, 1);
        x.stage(0, 2, 9);
        x.caravan(0, 2, 0);
        x.caravan(0, 2, 0);
        x.caravan(0, 3, 0);
        Checks.giveOrders(x, 0, "load 8;go 1;sell 5");
        Checks.giveOrders(x, 1, "load 7;go 2;go 0");
        Checks.giveContract(x, 1, "owner 1 lost owner 2");
        x.days(3);
        x.correct(0, 1);
        x.correct(0, 2);
        x.days(12);
        // Caravan 1: 20 - 18 + 1 = 3 at the well on day 11; 1 on 12; 1 lacks on 13, 1 on 14: GONE.
        long[] want = {15, 3, 2, 3, 15, 5, 7, 3, 2, 3, 40, 2};
        for (int what = 0; what < 12; what++) {
            Checks.due("count " + what, x.count(what), want[what]);
        }
    }
}

/** An object at its fullest and at the end of its use: all numbers of things at once, and the largest sums. */
public final class FullObjectTest {
    /** "An object is used for at most 512 calls after it has been made". */
    private static final int MOST_CALLS = 512;

    public static void main(String[] args) {
        allThingsAtOnce();
        allCaravansGoAndSell();
        todayGoesFar();
        moneyOfSellsBeyondAnInt();
        soldFarBeyondThePrice();
        theLastCallIsLikeTheFirst();
        Checks.finish();
    }

    /** Lake 0, market 11, towns between; a stage from each to the next, and all others from 0 to 11, of five days. */
    private static SaltCaravans full() {
        SaltCaravans x = new SaltCaravans();
        for (int i = 0; i < 12; i++) {
            int sort = i == 0 ? Checks.LAKE : i == 11 ? Checks.MARKET : Checks.TOWN;
            Checks.due("station", x.station(sort, 1000, 100, 3), i);
        }
        for (int i = 1; i <= 30; i++) {
            Checks.due("stage", i < 12 ? x.stage(i - 1, i, 9) : x.stage(0, 11, 5), i);
        }
        for (int i = 0; i < 12; i++) {
            Checks.due("caravan", x.caravan(i % 4, 500, 0), i);
        }
        return x;
    }

    // "STATIONS (at most 12 ..)", "STAGES (at most 30)", "CARAVANS (at most 12 ..)"
    private static void allThingsAtOnce() {
        SaltCaravans x = full();
        Checks.due("STATIONS", x.count(1), 12);
        Checks.due("STAGES", x.count(2), 30);
        Checks.due("CARAVANS", x.count(3), 12);
        Checks.due("all at the lake", x.look(0, 3), 12);
        Checks.due("nobody at the market", x.look(11, 3), 0);
        for (int i = 0; i < 12; i++) {
            Checks.dueState("at first", x, i, 0, 0, 500, 0, 5000, 0, 0, 0);
            Checks.due("nothing LOST", x.lost(i, 11 - i), 0);
            Checks.due("nothing known", x.knows(i, 11 - i, false), SaltCaravans.NONE);
        }
        Checks.due("days(1)", x.days(1), 1);
        Checks.due("nothing carried", x.count(7), 0);
    }

    private static void allCaravansGoAndSell() {
        SaltCaravans x = full();
        for (int i = 0; i < 12; i++) {
            Checks.giveContract(x, i, "tribe 1,owner 1");
            Checks.giveOrders(x, i, "load 2000;go 11;sell 2000");
        }
        x.days(1);
        Checks.due("carried by all", x.count(7), 24000);
        Checks.due("loaded", x.count(4), 24000);
        x.days(6);
        Checks.due("sold by all", x.count(5), 24000);
        Checks.due("SOLD", x.look(11, 2), 24000);
        Checks.due("PRICE", x.look(11, 1), 1000 - 240);
        Checks.due("a hundred each at 1000 down to 761", x.count(10), 100 * (240 * 1000 - 240 * 239 / 2));
        Checks.due("ENTRIES", x.count(9), 24);
        Checks.due("all at the market", x.look(11, 3), 12);
        for (int i = 0; i < 12; i++) {
            Checks.dueState("behind its sell", x, i, 0, 11, 500, 0, 5000, 0, 7, 3);
            Checks.due("its PRICE", x.knows(i, 11, false), 1000);
        }
        // Each caravan sells for twenty steps of a hundred slabs less than the one ahead of it.
        for (int i = 0; i < 12; i++) {
            int money = 100 * (20 * (1000 - 20 * i) - 190);
            Checks.due("half of it", x.balance(i, 2, 7, 7), money / 2);
        }
    }

    // "A DAY, from the present TODAY": by 511 calls of 200 DAYS each
    private static void todayGoesFar() {
        SaltCaravans x = new SaltCaravans();
        for (int i = 1; i < MOST_CALLS; i++) {
            Checks.due("TODAY", x.days(200), 200 * i);
        }
        Checks.due("TODAY by the last call", x.count(0), 102200);
    }

    // "10 MONEY of all sells": a long
    private static void moneyOfSellsBeyondAnInt() {
        SaltCaravans x = Worlds.lakeAndMarket(1000, 100, 500);
        Checks.giveOrders(x, 0, "load 500;go 1;sell 500;go 0;again");
        for (int i = 0; i < 115; i++) {
            x.days(200);
        }
        // In five days all 500 are forgotten: each time a hundred each at 1000 down to 996.
        Checks.due("loaded", x.count(4), 4600 * 500);
        Checks.due("sold", x.count(5), 4600 * 500);
        Checks.due("MONEY of all sells", x.count(10), 4600 * 499000L);
        Checks.due("ENTRIES", x.count(9), 300);
        Checks.due("MONEY of 300 of them", x.balance(0, 0, 1 << 30, 1 << 30), 300 * 499000);
    }

    private static void soldFarBeyondThePrice() {
        SaltCaravans x = Worlds.lakeAndMarket(1, 1, 500);
        Checks.giveOrders(x, 0, "load 2000;go 1;sell 2000;go 0;again");
        for (int i = 0; i < 200; i++) {
            x.days(200);
        }
        // The first sell is on day 3; each day takes one away.
        Checks.due("SOLD", x.look(1, 2), 8000 * 2000 - (40000 - 3));
        Checks.due("PRICE", x.look(1, 1), 0);
        Checks.due("MONEY of the one slab that was paid for", x.count(10), 1);
        Checks.due("nothing more to be had", x.split(5000), 0);
    }

    // Two calls ahead and five a round are just as many as an object has.
    private static void theLastCallIsLikeTheFirst() {
        SaltCaravans x = Worlds.towns(1);
        x.caravan(0, 1, 0);
        for (int round = 0; round < (MOST_CALLS - 2) / 5; round++) {
            Checks.dueThrow("orders of no text", Checks.ARGUMENT, () -> x.orders(0));
            Checks.due("fault", x.fault(), 0);
            Checks.dueThrow("look", Checks.ELEMENT, () -> x.look(0, 4));
            Checks.due("feed", x.feed(0x20202020, 0x20202020, 0x20202020, 0x2020676f, 0x20313233), 20);
            Checks.due("orders", x.orders(0), 1);
        }
    }
}

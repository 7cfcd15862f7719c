/** Promises 8, 15, 16 and 17: contracts that count, entries, putting right, and balances. */
public final class AccountsTest {
    private static final int OWNER = 0;
    private static final int DRIVER = 1;
    private static final int TRIBE = 2;

    public static void main(String[] args) {
        withoutAContract();
        sharesInTheirOrder();
        theRestIsTheFirstOnes();
        sharesOfNothingAreNotWritten();
        theContractAsItStood();
        setsOutAgain();
        goThatCannotBe();
        lossesArePaid();
        lossesWithoutLost();
        lossesOfNothing();
        putRight();
        putRightOnOneDay();
        balances();
        Checks.finish();
    }

    private static void withoutAContract() {
        SaltCaravans x = Worlds.lakeAndMarket(10, 100, 5);
        Checks.giveOrders(x, 0, "load 7;go 1;sell 7");
        x.days(3);
        Checks.due("one ENTRY", x.count(9), 1);
        Checks.dueEntry(x, 0, 0, OWNER, 3, 70, 70);
    }

    private static void sharesInTheirOrder() {
        SaltCaravans x = Worlds.lakeAndMarket(10, 100, 5);
        Checks.giveContract(x, 0, "tribe 1,driver 2,owner 4");
        Checks.giveOrders(x, 0, "load 7;go 1;sell 7");
        x.days(3);
        Checks.due("three ENTRIES", x.count(9), 3);
        Checks.dueEntry(x, 0, 0, TRIBE, 3, 10, 10);
        Checks.dueEntry(x, 1, 0, DRIVER, 3, 20, 20);
        Checks.dueEntry(x, 2, 0, OWNER, 3, 40, 40);
    }

    private static void theRestIsTheFirstOnes() {
        SaltCaravans x = Worlds.lakeAndMarket(10, 100, 5);
        Checks.giveContract(x, 0, "driver 33,owner 33,tribe 33");
        Checks.giveOrders(x, 0, "load 8;go 1;sell 8");
        x.days(3);
        Checks.dueEntry(x, 0, 0, DRIVER, 3, 28, 28);
        Checks.dueEntry(x, 1, 0, OWNER, 3, 26, 26);
        Checks.dueEntry(x, 2, 0, TRIBE, 3, 26, 26);
        // A first SHARE of 0 has the rest too.
        SaltCaravans y = Worlds.lakeAndMarket(10, 100, 5);
        Checks.giveContract(y, 0, "owner 0,tribe 1,driver 2");
        Checks.giveOrders(y, 0, "load 8;go 1;sell 8");
        y.days(3);
        Checks.dueEntry(y, 0, 0, OWNER, 3, 1, 1);
        Checks.dueEntry(y, 1, 0, TRIBE, 3, 26, 26);
        Checks.dueEntry(y, 2, 0, DRIVER, 3, 53, 53);
    }

    private static void sharesOfNothingAreNotWritten() {
        SaltCaravans x = Worlds.lakeAndMarket(10, 100, 5);
        Checks.giveContract(x, 0, "owner 0,tribe 0,driver 2");
        Checks.giveOrders(x, 0, "load 8;go 1;sell 8");
        x.days(3);
        Checks.due("one ENTRY", x.count(9), 1);
        Checks.dueEntry(x, 0, 0, DRIVER, 3, 80, 80);
        // 1 of 99 + 99 + 1 parts: each part of the money 1 is 0, the rest is the first one's.
        SaltCaravans y = Worlds.lakeAndMarket(1, 100, 5);
        Checks.giveContract(y, 0, "tribe 1,owner 99,driver 99");
        Checks.giveOrders(y, 0, "load 1;go 1;sell 1");
        y.days(3);
        Checks.due("one ENTRY", y.count(9), 1);
        Checks.dueEntry(y, 0, 0, TRIBE, 3, 1, 1);
    }

    private static void theContractAsItStood() {
        SaltCaravans x = Worlds.lakeAndMarket(10, 100, 5);
        Checks.giveOrders(x, 0, "load 20;go 1;sell 1;sell 1;go 0;go 1;sell 1");
        x.days(2);
        Checks.giveContract(x, 0, "driver 1");
        x.days(2);
        Checks.due("told on the way it does not count", x.balance(0, OWNER, 9, 9), 20);
        Checks.giveContract(x, 0, "tribe 1");
        x.days(3);
        Checks.due("what was told last counts from the setting out on", x.balance(0, TRIBE, 9, 9), 10);
        Checks.due("what was told between never counted", x.balance(0, DRIVER, 9, 9), 0);
        Checks.due("the owner has what he had", x.balance(0, OWNER, 9, 9), 20);
    }

    private static void setsOutAgain() {
        // Neither a contract told at the market nor a wrong text changes what counts.
        SaltCaravans x = Worlds.lakeAndMarket(10, 100, 5);
        x.caravan(0, 5, 0);
        Checks.giveContract(x, 0, "tribe 1 lost tribe 5");
        Checks.giveOrders(x, 0, "load 8;go 1;sell 4;sell 4");
        Checks.giveContract(x, 1, "driver 1");
        Checks.giveOrders(x, 1, "load 8;go 1;sell 8");
        x.days(3);
        Checks.due("of one caravan", x.balance(0, TRIBE, 9, 9), 40);
        Checks.due("of the other one", x.balance(1, DRIVER, 9, 9), 80);
        Checks.giveContract(x, 0, "owner 1");
        Checks.feedText(x, "owner 1 x");
        Checks.dueThrow("a wrong contract", Checks.ARGUMENT, () -> x.contract(0));
        x.days(1);
        Checks.due("it counts until it sets out again", x.balance(0, TRIBE, 9, 9), 80);
    }

    private static void goThatCannotBe() {
        SaltCaravans x = Worlds.lakeAndMarket(10, 100, 5);
        Checks.giveOrders(x, 0, "load 9;go 1;go 1;sell 9");
        x.days(2);
        Checks.giveContract(x, 0, "tribe 1");
        x.days(2);
        Checks.due("it did not set out again", x.balance(0, OWNER, 9, 9), 90);
        Checks.due("so the tribe has nothing", x.balance(0, TRIBE, 9, 9), 0);
    }

    private static void lossesArePaid() {
        SaltCaravans x = Worlds.dryWay(20, 1, "owner 1 lost driver 3", "load 999999;go 1;go 2");
        x.days(13);
        Checks.dueEntry(x, 0, 0, DRIVER, 13, -3 * 40, -3 * 40);
        Checks.giveContract(x, 0, "owner 1 lost tribe 7");
        x.days(1);
        Checks.dueEntry(x, 1, 0, DRIVER, 14, -3 * 20, -3 * 20);
        x.days(10);
        Checks.due("each day is an ENTRY of its own", x.count(9), 5);
        Checks.due("all SLABS", x.balance(0, DRIVER, 99, 99), -3 * 80);
        Checks.due("MONEY of sells", x.count(10), 0);
    }

    private static void lossesWithoutLost() {
        SaltCaravans x = Worlds.dryWay(20, 1, "owner 1", "load 999999;go 1;go 2");
        SaltCaravans y = Worlds.dryWay(20, 1, "", "load 999999;go 1;go 2");
        x.days(15);
        y.days(15);
        Checks.due("no lost, no ENTRY", x.count(9), 0);
        Checks.due("no contract, no ENTRY", y.count(9), 0);
        Checks.due("LOST all the same", x.lost(1, 2) + y.lost(1, 2), 2 * 72);
    }

    private static void lossesOfNothing() {
        SaltCaravans x = Worlds.dryWay(20, 1, "owner 1 lost driver 0", "load 999999;go 1;go 2");
        x.days(15);
        Checks.due("a payment of 0 is no ENTRY", x.count(9), 0);
        Checks.due("LOST", x.count(6), 72);
    }

    /** A caravan with an entry of 10 on each of the days 3, 4 and 5, today. */
    private static SaltCaravans threeEntries() {
        SaltCaravans x = Worlds.lakeAndMarket(10, 100, 5);
        Checks.giveOrders(x, 0, "load 9;go 1;sell 1;sell 1;sell 1");
        x.days(5);
        return x;
    }

    private static void putRight() {
        SaltCaravans x = threeEntries();
        x.days(2);
        Checks.due("day 7", x.correct(1, 25), true);
        x.days(2);
        Checks.due("day 9", x.correct(1, -4), true);
        Checks.due("MONEY now", x.entry(1, 3), -4);
        Checks.due("MONEY at first", x.entry(1, 4), 10);
        Checks.due("its day stays", x.entry(1, 2), 4);
        Checks.due("the others stay", x.entry(0, 3) + x.entry(2, 3), 20);
        Checks.due("as known on 6", x.balance(0, OWNER, 99, 6), 30);
        Checks.due("as known on 7", x.balance(0, OWNER, 99, 7), 45);
        Checks.due("as known on 8", x.balance(0, OWNER, 99, 8), 45);
        Checks.due("as known on 9", x.balance(0, OWNER, 99, 9), 16);
        Checks.due("as known ever", x.balance(0, OWNER, 99, Integer.MAX_VALUE), 16);
        Checks.due("of days up to 3", x.balance(0, OWNER, 3, 9), 10);
        Checks.due("of days up to 4", x.balance(0, OWNER, 4, 9), 6);
        Checks.due("how often", x.count(11), 2);
        Checks.due("how many ENTRIES", x.count(9), 3);
        Checks.due("MONEY of all sells stays", x.count(10), 30);
    }

    private static void putRightOnOneDay() {
        SaltCaravans x = threeEntries();
        x.correct(2, 1);
        x.correct(2, 2);
        x.correct(2, 0);
        x.correct(2, 7);
        Checks.due("the last told counts", x.balance(0, OWNER, 5, 5), 27);
        Checks.due("on its own day already", x.balance(0, OWNER, 5, 4), 20);
        x.correct(2, 0);
        Checks.due("put right to nothing it is an ENTRY on", x.count(9), 3);
        Checks.due("of nothing", x.entry(2, 3), 0);
        Checks.due("nothing of it", x.balance(0, OWNER, 5, 5), 20);
    }

    private static void balances() {
        SaltCaravans x = Worlds.lakeAndMarket(10, 100, 5);
        x.caravan(0, 5, 0);
        Checks.giveContract(x, 0, "owner 3,driver 2");
        Checks.giveOrders(x, 0, "load 9;go 1;sell 2;wait 1;sell 3");
        Checks.giveOrders(x, 1, "load 9;go 1;sell 1");
        x.days(5);
        Checks.due("owner's", x.balance(0, OWNER, 5, 5), 30);
        Checks.due("driver's", x.balance(0, DRIVER, 5, 5), 20);
        Checks.due("tribe's", x.balance(0, TRIBE, 5, 5), 0);
        Checks.due("the other caravan's", x.balance(1, OWNER, 5, 5), 10);
        Checks.due("up to day 4", x.balance(0, OWNER, 4, 5), 12);
        Checks.due("known by day 4", x.balance(0, OWNER, 5, 4), 12);
        Checks.due("known by day 2", x.balance(0, OWNER, 5, 2), 0);
        Checks.due("of days below 0", x.balance(0, OWNER, -1, 5), 0);
        Checks.due("known below 0", x.balance(0, OWNER, 5, -1), 0);
        Checks.due("least", x.balance(0, OWNER, Integer.MIN_VALUE, Integer.MIN_VALUE), 0);
        Checks.due("most", x.balance(0, OWNER, Integer.MAX_VALUE, Integer.MAX_VALUE), 30);
    }
}

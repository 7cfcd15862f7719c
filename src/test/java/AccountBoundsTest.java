/** Terms 2 and 3, MONEY and ACCOUNTS, sentence by sentence: shares, ENTRIES, what is put right, and BALANCES. */
public final class AccountBoundsTest {
    private static final int LEAST = Integer.MIN_VALUE;
    private static final int MOST = Integer.MAX_VALUE;
    private static final int OWNER = 0;
    private static final int DRIVER = 1;
    private static final int TRIBE = 2;

    public static void main(String[] args) {
        moneyOfNothing();
        withoutAContractAllIsTheOwners();
        sharesAreRoundedDown();
        theLargestSell();
        aContractToldOnTheDayItSetsOut();
        aContractCountsUntilItSetsOutAgain();
        aPaymentOfNothing();
        theDearestPayment();
        theThreeHundredthEntryOfASell();
        theThreeHundredthEntryOfALoss();
        noLossBehindThreeHundred();
        putRightByTheMostAndTheLeast();
        putRightOnTheDayOfAQuestion();
        aHundredInAll();
        balanceOfDays();
        balanceOfWhatWasKnown();
        balanceOfOthers();
        splitFromNothingToFiveThousand();
        splitOfTheLastSlabs();
        splitAtEachPrice();
        countsOfNothing();
        Checks.finish();
    }

    /** The entries of one sell of so many slabs at 10 each, on day 3, today. */
    private static SaltCaravans soldBy(String contract, int slabs) {
        SaltCaravans x = Worlds.lakeAndMarket(10, 100, 500);
        Checks.giveContract(x, 0, contract);
        Checks.giveOrders(x, 0, "load " + slabs + ";go 1;sell " + slabs);
        x.days(3);
        return x;
    }

    // "MONEY of one sell, if there is some"; "Each share that is not 0 .. is an ENTRY"
    private static void moneyOfNothing() {
        Checks.due("no slab", soldBy("owner 1,driver 1,tribe 1", 0).count(9), 0);
        Checks.due("one of nine slabs brought MONEY", Worlds.soldToday(1, 1, 9).count(9), 1);
        SaltCaravans y = Worlds.lakeAndMarket(1, 1, 5);
        y.caravan(0, 5, 0);
        Checks.giveOrders(y, 0, "load 1;go 1;sell 1");
        Checks.giveOrders(y, 1, "load 5;go 1;sell 5");
        y.days(3);
        Checks.due("five for nothing were sold", y.count(5), 6);
        Checks.due("but are no ENTRY", y.count(9), 1);
        Checks.due("of the first caravan", y.entry(0, 0), 0);
    }

    // "(without one all is the owner's)"
    private static void withoutAContractAllIsTheOwners() {
        SaltCaravans x = Worlds.soldToday(10, 100, 7);
        Checks.due("one ENTRY", x.count(9), 1);
        Checks.dueEntry(x, 0, 0, OWNER, 3, 70, 70);
    }

    private static void dueShares(String contract, int slabs, int[] party, int[] money) {
        SaltCaravans x = soldBy(contract, slabs);
        Checks.due("ENTRIES by " + contract, x.count(9), party.length);
        for (int i = 0; i < party.length; i++) {
            Checks.dueEntry(x, i, 0, party[i], 3, money[i], money[i]);
        }
    }

    // "rounded down; the rest is the first SHARE's"; "Each share that is not 0"; "in the order of the SHARES"
    private static void sharesAreRoundedDown() {
        dueShares("owner 1", 1, new int[] {OWNER}, new int[] {10});
        dueShares("tribe 99", 1, new int[] {TRIBE}, new int[] {10});
        dueShares("driver 1,owner 1", 1, new int[] {DRIVER, OWNER}, new int[] {5, 5});
        dueShares("tribe 1,owner 1,driver 1", 1, new int[] {TRIBE, OWNER, DRIVER}, new int[] {4, 3, 3});
        dueShares("tribe 1,owner 1,driver 1", 3, new int[] {TRIBE, OWNER, DRIVER}, new int[] {10, 10, 10});
        dueShares("owner 9,tribe 1", 1, new int[] {OWNER, TRIBE}, new int[] {9, 1});
        dueShares("owner 10,tribe 1", 1, new int[] {OWNER}, new int[] {10});
        dueShares("owner 1,tribe 10", 1, new int[] {OWNER, TRIBE}, new int[] {1, 9});
        dueShares("owner 0,tribe 5", 1, new int[] {TRIBE}, new int[] {10});
        dueShares("tribe 5,owner 0", 1, new int[] {TRIBE}, new int[] {10});
        dueShares("owner 0,tribe 1", 1, new int[] {TRIBE}, new int[] {10});
        dueShares("owner 0,driver 0,tribe 1", 1, new int[] {TRIBE}, new int[] {10});
        dueShares("owner 0,driver 1,tribe 2", 1, new int[] {OWNER, DRIVER, TRIBE}, new int[] {1, 3, 6});
        dueShares("driver 1,owner 99,tribe 99", 1, new int[] {DRIVER, OWNER, TRIBE}, new int[] {2, 4, 4});
    }

    private static void theLargestSell() {
        SaltCaravans x = Worlds.lakeAndMarket(1000, 100, 500);
        Checks.giveContract(x, 0, "tribe 99,driver 99,owner 99");
        Checks.giveOrders(x, 0, "load 2000;go 1;sell 2000");
        x.days(3);
        Checks.due("a hundred each at 1000 down to 981", x.count(10), 1981000);
        Checks.dueEntry(x, 0, 0, TRIBE, 3, 660334, 660334);
        Checks.dueEntry(x, 1, 0, DRIVER, 3, 660333, 660333);
        Checks.dueEntry(x, 2, 0, OWNER, 3, 660333, 660333);
        Checks.due("PRICE", x.look(1, 1), 980);
    }

    // "it sets out: .. its CONTRACT counts as it is now"
    private static void aContractToldOnTheDayItSetsOut() {
        for (int day = 0; day < 4; day++) {
            SaltCaravans x = Worlds.lakeAndMarket(10, 100, 5);
            Checks.giveOrders(x, 0, "load 5;go 1;sell 5");
            x.days(day);
            Checks.giveContract(x, 0, "tribe 1");
            x.days(4 - day);
            // It sets out on day 2: what is told up to day 1 counts then.
            Checks.due("told on day " + day, x.balance(0, TRIBE, 4, 4), day < 2 ? 50 : 0);
            Checks.due("the owner's, told on day " + day, x.balance(0, OWNER, 4, 4), day < 2 ? 0 : 50);
        }
    }

    // "(from now on, until it sets out again)"
    private static void aContractCountsUntilItSetsOutAgain() {
        SaltCaravans x = Worlds.lakeAndMarket(10, 100, 5);
        Checks.giveContract(x, 0, "tribe 1");
        Checks.giveOrders(x, 0, "load 9;go 1;sell 1;go 9;sell 1;go 0;go 1;sell 1");
        x.days(2);
        Checks.giveContract(x, 0, "driver 1");
        x.days(3);
        Checks.due("it could not set out again", x.balance(0, TRIBE, 9, 9), 20);
        x.days(1);
        Checks.giveContract(x, 0, "owner 1");
        x.days(2);
        Checks.due("what was told last when it set out last", x.balance(0, OWNER, 9, 9), 10);
        Checks.due("the driver's counted on a way without a sell", x.balance(0, DRIVER, 9, 9), 0);
    }

    // "the PARTY pays the NUMBER for each"; "each such payment (below 0)"
    private static void aPaymentOfNothing() {
        int[] numbers = {0, 1, 2};
        for (int number : numbers) {
            // Of ten camels nine lack WATER: five die, and twenty slabs are lost.
            SaltCaravans x = Worlds.dryWay(10, 1, "owner 1 lost driver " + number, "load 40;go 1;go 2");
            x.days(13);
            Checks.due("LOST", x.count(6), 20);
            Checks.due("ENTRIES at " + number, x.count(9), number == 0 ? 0 : 1);
            Checks.due("paid at " + number, x.balance(0, DRIVER, 13, 13), -20 * number);
            Checks.due("it is no MONEY of a sell", x.count(10), 0);
        }
    }

    private static void theDearestPayment() {
        SaltCaravans x = Worlds.dryWay(500, 1, "owner 1 lost tribe 999999", "load 2000;go 1;go 2");
        x.days(13);
        Checks.dueEntry(x, 0, 0, TRIBE, 13, -999999000, -999999000);
        x.days(10);
        Checks.due("all but those of one CAMEL were lost", x.lost(1, 2), 1996);
        Checks.due("all of them were paid for", x.balance(0, TRIBE, 99, 99), -1996 * 999999L);
        // Putting right may be by more than the largest number that is allowed for it.
        x.correct(0, 1000000);
        Checks.due("put right", x.balance(0, TRIBE, 99, 99), -996 * 999999L + 1000000);
        Checks.due("as known before", x.balance(0, TRIBE, 99, 22), -1996 * 999999L);
        Checks.dueEntry(x, 0, 0, TRIBE, 13, 1000000, -999999000);
    }

    /**
     * Lake 0, market 1, an all but empty well 2 and town 3. Caravan 0 sold a slab at 9 on each of so many days by this
     * contract, from day 3 up to today; caravan 1 is at the lake.
     */
    private static SaltCaravans manySells(int sells, String contract) {
        SaltCaravans x = new SaltCaravans();
        x.station(Checks.LAKE, 0, 0, 0);
        x.station(Checks.MARKET, 9, 100, 0);
        x.station(Checks.WELL, 0, 1, SaltCaravans.NONE);
        x.station(Checks.TOWN, 0, 0, 0);
        x.stage(0, 1, 1);
        x.stage(0, 2, 9);
        x.stage(2, 3, 9);
        x.caravan(0, 100, 0);
        x.caravan(0, 10, 0);
        Checks.giveContract(x, 0, contract);
        Checks.giveOrders(x, 0, "load 400;go 1");
        x.days(2);
        for (int left = sells; left > 0; left -= 11) {
            int now = Math.min(11, left);
            Checks.giveOrders(x, 0, "sell 1;".repeat(now - 1) + "sell 1");
            x.days(now);
        }
        return x;
    }

    // "is an ENTRY (at most 300; what would be more is not written)": in the midst of one sell
    private static void theThreeHundredthEntryOfASell() {
        int[] lastParty = {DRIVER, OWNER, TRIBE};
        for (int ahead = 0; ahead < 3; ahead++) {
            SaltCaravans x = manySells(99, "tribe 1,owner 1,driver 1");
            Checks.due("99 sells of three SHARES", x.count(9), 297);
            Checks.giveOrders(x, 1, "load 4;go 1" + ";sell 1".repeat(ahead));
            x.days(2 + ahead);
            Checks.due("and some of the other caravan", x.count(9), 297 + ahead);
            Checks.giveOrders(x, 0, "sell 1;sell 1");
            x.days(1);
            Checks.due("just 300", x.count(9), 300);
            Checks.dueEntry(x, 299, 0, lastParty[ahead], 104 + ahead, 3, 3);
            x.days(1);
            Checks.due("no more than 300", x.count(9), 300);
            Checks.due("sold all the same", x.count(5), 101 + ahead);
            Checks.due("MONEY all the same", x.count(10), 9 * (101 + ahead));
            Checks.due("the tribe's", x.balance(0, TRIBE, MOST, MOST), 300);
            Checks.due("the driver's", x.balance(0, DRIVER, MOST, MOST), ahead == 0 ? 300 : 297);
            Checks.dueThrow("entry 300", Checks.INDEX, () -> x.entry(300, 0));
            Checks.dueThrow("correct 300", Checks.INDEX, () -> x.correct(300, 0));
        }
    }

    private static void theThreeHundredthEntryOfALoss() {
        SaltCaravans x = manySells(299, "owner 1");
        Checks.due("299 ENTRIES", x.count(9), 299);
        Checks.giveContract(x, 1, "owner 1 lost tribe 5");
        Checks.giveOrders(x, 1, "load 40;go 2;go 3");
        x.days(13);
        Checks.due("20 LOST", x.lost(2, 3), 20);
        Checks.due("the loss is the 300th", x.count(9), 300);
        Checks.dueEntry(x, 299, 1, TRIBE, 314, -100, -100);
        x.days(1);
        Checks.due("more LOST", x.lost(2, 3), 32);
        Checks.due("what would be more is not written", x.count(9), 300);
        Checks.due("nor is it in the BALANCE", x.balance(1, TRIBE, MOST, MOST), -100);
        Checks.due("an ENTRY can be put right", x.correct(299, -160), true);
        Checks.due("the last one was", x.balance(1, TRIBE, MOST, MOST), -160);
    }

    private static void noLossBehindThreeHundred() {
        SaltCaravans x = manySells(300, "owner 1");
        Checks.due("300 ENTRIES", x.count(9), 300);
        Checks.giveContract(x, 1, "owner 1 lost tribe 5");
        Checks.giveOrders(x, 1, "load 40;go 2;go 3");
        x.days(20);
        Checks.due("all are LOST", x.lost(2, 3), 40);
        Checks.due("none is written", x.count(9), 300);
        Checks.due("nothing is paid", x.balance(1, TRIBE, MOST, MOST), 0);
        Checks.due("all 300 are in the BALANCE", x.balance(0, OWNER, MOST, MOST), 2700);
    }

    /** A caravan with an ENTRY of 10 on each of the days 3, 4 and 5, today. */
    private static SaltCaravans threeEntries() {
        SaltCaravans x = Worlds.lakeAndMarket(10, 100, 5);
        Checks.giveOrders(x, 0, "load 9;go 1;sell 1;sell 1;sell 1");
        x.days(5);
        return x;
    }

    // "IllegalArgumentException: money is not - 1000000 to 1000000"
    private static void putRightByTheMostAndTheLeast() {
        int[] right = {-1000000, -999999, -1, 0, 1, 999999, 1000000};
        SaltCaravans x = threeEntries();
        for (int money : right) {
            for (int e = 0; e < 3; e += 2) {
                Checks.due("correct " + e + " by " + money, x.correct(e, money), true);
                Checks.dueEntry(x, e, 0, OWNER, 3 + e, money, 10);
            }
            Checks.due("BALANCE", x.balance(0, OWNER, 5, 5), 10 + 2 * money);
        }
        Checks.due("how often", x.count(11), 2 * right.length);
    }

    // "from TODAY on it is known to be of another MONEY"; "what was told last up to K"
    private static void putRightOnTheDayOfAQuestion() {
        SaltCaravans x = threeEntries();
        x.correct(0, 100);
        x.correct(0, 200);
        x.days(1);
        x.correct(0, 300);
        x.days(2);
        x.correct(0, 400);
        x.correct(0, 10);
        int[] known = {2, 3, 4, 5, 6, 7, 8, 9, MOST};
        int[] want = {0, 10, 10, 200, 300, 300, 10, 10, 10};
        for (int i = 0; i < known.length; i++) {
            Checks.due("day 3 as known on " + known[i], x.balance(0, OWNER, 3, known[i]), want[i]);
        }
        Checks.due("put right to what it was counts too", x.count(11), 5);
    }

    // "at most 100 times in all"
    private static void aHundredInAll() {
        SaltCaravans x = threeEntries();
        for (int i = 1; i <= 100; i++) {
            Checks.due("time " + i, x.correct(0, i), true);
            Checks.due("how often", x.count(11), i);
        }
        Checks.due("of another ENTRY", x.correct(1, 7), false);
        x.days(1);
        Checks.due("on another day", x.correct(0, 7), false);
        Checks.dueEntry(x, 0, 0, OWNER, 3, 100, 10);
        Checks.dueEntry(x, 1, 0, OWNER, 4, 10, 10);
        Checks.due("how often", x.count(11), 100);
        Checks.due("BALANCE", x.balance(0, OWNER, 99, 99), 120);
    }

    // "the sum of all its ENTRIES of days up to D"
    private static void balanceOfDays() {
        SaltCaravans x = threeEntries();
        int[] days = {LEAST, -1, 0, 2, 3, 4, 5, 6, MOST};
        int[] want = {0, 0, 0, 0, 10, 20, 30, 30, 30};
        for (int i = 0; i < days.length; i++) {
            Checks.due("up to " + days[i], x.balance(0, OWNER, days[i], MOST), want[i]);
        }
    }

    // "that were known by K, each as known by K"
    private static void balanceOfWhatWasKnown() {
        SaltCaravans x = threeEntries();
        x.days(1);
        x.correct(2, -40);
        int[] known = {LEAST, -1, 0, 2, 3, 4, 5, 6, MOST};
        int[] want = {0, 0, 0, 0, 10, 20, 30, -20, -20};
        for (int i = 0; i < known.length; i++) {
            Checks.due("known by " + known[i], x.balance(0, OWNER, MOST, known[i]), want[i]);
        }
        Checks.due("not of that day", x.balance(0, OWNER, 4, MOST), 20);
    }

    private static void balanceOfOthers() {
        SaltCaravans x = Worlds.lakeAndMarket(10, 100, 5);
        Checks.due("ahead of any ENTRY", x.balance(0, OWNER, MOST, MOST), 0);
        for (int c = 1; c < 12; c++) {
            x.caravan(0, 5, 0);
        }
        int[] sellers = {0, 11};
        for (int c : sellers) {
            Checks.giveContract(x, c, "owner 1,driver 2,tribe 7");
            Checks.giveOrders(x, c, "load 1;go 1;sell 1");
        }
        x.days(3);
        for (int c = 0; c < 12; c++) {
            boolean sold = c == 0 || c == 11;
            Checks.due("the owner's of " + c, x.balance(c, OWNER, 3, 3), sold ? 1 : 0);
            Checks.due("the driver's of " + c, x.balance(c, DRIVER, 3, 3), sold ? 2 : 0);
            Checks.due("the tribe's of " + c, x.balance(c, TRIBE, 3, 3), sold ? 7 : 0);
        }
    }

    // "IllegalArgumentException: not 0 to 5000."
    private static void splitFromNothingToFiveThousand() {
        SaltCaravans x = new SaltCaravans();
        Checks.due("no market", x.split(5000), 0);
        for (int i = 0; i < 12; i++) {
            x.station(Checks.MARKET, 1000, 100, 0);
        }
        Checks.due("split 0", x.split(0), 0);
        Checks.due("split 1", x.split(1), 1000);
        Checks.due("split 4999", x.split(4999), 1200 * (1000 + 999 + 998 + 997) + 199 * 996);
        Checks.due("split 5000", x.split(5000), 1200 * (1000 + 999 + 998 + 997) + 200 * 996);
        Checks.due("nothing is sold by it", x.look(0, 2) + x.count(5) + x.count(10), 0);
    }

    // "The most MONEY that so many SLABS could bring just now": up to where a PRICE is 0
    private static void splitOfTheLastSlabs() {
        SaltCaravans x = new SaltCaravans();
        for (int i = 0; i < 12; i++) {
            x.station(Checks.MARKET, 1, 1, 0);
        }
        int[] slabs = {0, 1, 11, 12, 13, 5000};
        int[] want = {0, 1, 11, 12, 12, 12};
        for (int i = 0; i < slabs.length; i++) {
            Checks.due("split " + slabs[i], x.split(slabs[i]), want[i]);
        }
        int[] sold = {5, 6, 7, 2000};
        for (int n : sold) {
            SaltCaravans y = Worlds.soldToday(3, 2, n);
            Checks.due("behind " + n + " of six", y.split(5000), n < 6 ? 1 : 0);
            Checks.due("one behind " + n + " of six", y.split(1), n < 6 ? 1 : 0);
        }
        // A dear market that is all but sold out, and a cheap one.
        SaltCaravans z = Worlds.soldToday(9, 1, 7);
        z.station(Checks.MARKET, 3, 2, 0);
        int[] all = {0, 3, 6, 8, 10, 12, 13, 14, 15, 15};
        for (int n = 0; n < all.length; n++) {
            Checks.due("split " + n + " of two markets", z.split(n), all[n]);
        }
    }

    // "each slab for its PRICE just then": from the least TOP to the most, within a step of the PRICE and over it
    private static void splitAtEachPrice() {
        for (int top = 1; top <= 1000; top++) {
            SaltCaravans x = new SaltCaravans();
            x.station(Checks.MARKET, top, 2, 0);
            int[] want = {0, top, 2 * top, 3 * top - 1, 4 * top - 2};
            for (int slabs = 0; slabs < want.length; slabs++) {
                Checks.due("split " + slabs + " at TOP " + top, x.split(slabs), want[slabs]);
            }
        }
    }

    // "NONE for another what."
    private static void countsOfNothing() {
        SaltCaravans x = threeEntries();
        int[] none = {-1, 12, LEAST, MOST};
        for (int what : none) {
            Checks.due("count " + what, x.count(what), SaltCaravans.NONE);
        }
        Checks.due("count 0", x.count(0), 5);
        Checks.due("count 11", x.count(11), 0);
    }
}

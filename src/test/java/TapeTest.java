/** Promises 2 and 3: feed and end. */
public final class TapeTest {
    public static void main(String[] args) {
        feedCountsTheBytes();
        feedStopsAt400();
        endCuts();
        theHighestByteComesFirst();
        feedComesBehind();
        bothTextsUseTheTapeUp();
        Checks.finish();
    }

    private static SaltCaravans withCaravan() {
        SaltCaravans x = new SaltCaravans();
        x.station(Checks.TOWN, 0, 0, 0);
        x.caravan(0, 1, 0);
        return x;
    }

    private static void feedCountsTheBytes() {
        SaltCaravans x = new SaltCaravans();
        Checks.due("first feed", x.feed(0, 0, 0, 0, 0), 20);
        Checks.due("second feed", x.feed(-1, Integer.MIN_VALUE, Integer.MAX_VALUE, 7, 0), 40);
    }

    private static void feedStopsAt400() {
        SaltCaravans x = new SaltCaravans();
        for (int i = 1; i <= 20; i++) {
            Checks.due("feed " + i, x.feed(0, 0, 0, 0, 0), 20 * i);
        }
        Checks.due("feed 21", x.feed(0, 0, 0, 0, 0), SaltCaravans.NONE);
        Checks.due("end(401)", x.end(401), false);
        Checks.due("end(400): no byte came with feed 21", x.end(400), true);
        Checks.due("end(381)", x.end(381), true);
        Checks.due("feed on 381", x.feed(0, 0, 0, 0, 0), SaltCaravans.NONE);
        Checks.due("end(380)", x.end(380), true);
        Checks.due("feed on 380", x.feed(0, 0, 0, 0, 0), 400);
    }

    private static void endCuts() {
        SaltCaravans x = new SaltCaravans();
        Checks.due("end(0) of an empty tape", x.end(0), true);
        Checks.due("end(1) of an empty tape", x.end(1), false);
        Checks.due("end(-1) of an empty tape", x.end(-1), false);
        x.feed(0, 0, 0, 0, 0);
        Checks.due("end(21) of 20", x.end(21), false);
        Checks.due("end(-1) of 20", x.end(-1), false);
        Checks.due("end(least)", x.end(Integer.MIN_VALUE), false);
        Checks.due("end(most)", x.end(Integer.MAX_VALUE), false);
        Checks.due("feed behind what end left alone", x.feed(0, 0, 0, 0, 0), 40);
        Checks.due("end(7)", x.end(7), true);
        Checks.due("end(8) of 7", x.end(8), false);
        Checks.due("end(7) of 7", x.end(7), true);
        Checks.due("feed behind 7", x.feed(0, 0, 0, 0, 0), 27);
    }

    private static void theHighestByteComesFirst() {
        SaltCaravans x = withCaravan();
        x.feed(0x6c6f6164, 0x20313233, 0x3b676f20, 0x313b6167, 0x61696e3b);
        x.end(19);
        Checks.due("load 123;go 1;again", x.orders(0), 3);
        // The bytes the other way round are no text.
        x.feed(0x64616f6c, 0x33323120, 0, 0, 0);
        x.end(8);
        Checks.dueThrow("the bytes the other way round", Checks.ARGUMENT, () -> x.orders(0));
    }

    private static void feedComesBehind() {
        SaltCaravans x = withCaravan();
        x.feed(0x676f2031, 0, 0, 0, 0);
        x.end(4);
        x.feed(0x3b676f20, 0x32000000, 0, 0, 0);
        x.end(9);
        Checks.due("go 1 and ;go 2", x.orders(0), 2);
    }

    private static void bothTextsUseTheTapeUp() {
        SaltCaravans x = withCaravan();
        Checks.giveOrders(x, 0, "go 1");
        Checks.due("feed behind right orders", x.feed(0, 0, 0, 0, 0), 20);
        Checks.dueThrow("orders", Checks.ARGUMENT, () -> x.orders(0));
        Checks.due("feed behind wrong orders", x.feed(0, 0, 0, 0, 0), 20);
        Checks.dueThrow("orders(1)", Checks.INDEX, () -> x.orders(1));
        Checks.due("feed behind orders of no caravan", x.feed(0, 0, 0, 0, 0), 20);
        Checks.dueThrow("contract(0)", Checks.ARGUMENT, () -> x.contract(0));
        Checks.due("feed behind a wrong contract", x.feed(0, 0, 0, 0, 0), 20);
        Checks.dueThrow("contract(-1)", Checks.INDEX, () -> x.contract(-1));
        Checks.due("feed behind a contract of no caravan", x.feed(0, 0, 0, 0, 0), 20);
        x.end(0);
        Checks.giveContract(x, 0, "tribe 5");
        Checks.due("end(1) behind a right contract", x.end(1), false);
        Checks.due("feed behind a right contract", x.feed(0, 0, 0, 0, 0), 20);
    }
}

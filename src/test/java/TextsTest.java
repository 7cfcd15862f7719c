/** Promises 7, 8 and 9: the texts of orders and contracts, and their first wrong byte. */
public final class TextsTest {
    public static void main(String[] args) {
        rightOrders();
        wrongOrders();
        rightContracts();
        wrongContracts();
        wrongTextsChangeNothing();
        Checks.finish();
    }

    private static SaltCaravans withCaravan() {
        SaltCaravans x = new SaltCaravans();
        x.station(Checks.TOWN, 0, 0, 0);
        x.station(Checks.TOWN, 0, 0, 0);
        x.stage(0, 1, 3);
        x.caravan(0, 1, 0);
        return x;
    }

    private static void rightOrders() {
        SaltCaravans x = withCaravan();
        Checks.dueOrders(x, "go 1", 1);
        Checks.dueOrders(x, "load 0;sell 999999;wait 000000;again", 4);
        Checks.dueOrders(x, "  go   1  ;  again  ", 2);
        Checks.dueOrders(x, "go1;load2;sell3;wait4", 4);
        Checks.dueOrders(x, "if 999999 < 999999 again", 1);
        Checks.dueOrders(x, "if1>2wait 3;if 1 <2go 0", 2);
        Checks.dueOrders(x, "if 0>0 load 1 ; if 0<0 sell 1 ; again", 3);
        Checks.dueOrders(x, "again;go 0;again;go 0;again;go 0;again;go 0;again;go 0;again;go 0", 12);
    }

    private static void wrongOrders() {
        SaltCaravans x = withCaravan();
        Checks.dueOrdersFault(x, "", 0);
        Checks.dueOrdersFault(x, "   ", 3);
        Checks.dueOrdersFault(x, "go", 2);
        Checks.dueOrdersFault(x, "go  ", 4);
        Checks.dueOrdersFault(x, "go ;", 3);
        Checks.dueOrdersFault(x, " gone 1", 1);
        Checks.dueOrdersFault(x, "g 1", 0);
        Checks.dueOrdersFault(x, "Go 1", 0);
        Checks.dueOrdersFault(x, "go 1234567", 3);
        Checks.dueOrdersFault(x, "go 0000001;again", 3);
        Checks.dueOrdersFault(x, "go -1", 3);
        Checks.dueOrdersFault(x, "go 1 1", 5);
        Checks.dueOrdersFault(x, "go 1again", 4);
        Checks.dueOrdersFault(x, "go 1,again", 4);
        Checks.dueOrdersFault(x, "go 1;;again", 5);
        Checks.dueOrdersFault(x, "go 1; ", 6);
        Checks.dueOrdersFault(x, ";go 1", 0);
        Checks.dueOrdersFault(x, "again 1", 6);
        Checks.dueOrdersFault(x, "againgo 1", 0);
        Checks.dueOrdersFault(x, "again again", 6);
        Checks.dueOrdersFault(x, "owner 1", 0);
        Checks.dueOrdersFault(x, "if", 2);
        Checks.dueOrdersFault(x, "if go 1", 3);
        Checks.dueOrdersFault(x, "if 1234567<1 go 1", 3);
        Checks.dueOrdersFault(x, "if 1", 4);
        Checks.dueOrdersFault(x, "if 1 2", 5);
        Checks.dueOrdersFault(x, "if 1 =2 go 1", 5);
        Checks.dueOrdersFault(x, "if 1 <", 6);
        Checks.dueOrdersFault(x, "if 1 <> 2 go 1", 6);
        Checks.dueOrdersFault(x, "if 1 < x", 7);
        Checks.dueOrdersFault(x, "if 1 < 7654321 go 1", 7);
        Checks.dueOrdersFault(x, "if 1 < 2", 8);
        Checks.dueOrdersFault(x, "if 1 < 2;go 1", 8);
        Checks.dueOrdersFault(x, "if 1 < 2 if 1 < 2 go 1", 9);
        Checks.dueOrdersFault(x, "if 1 < 2 go", 11);
        Checks.dueOrdersFault(x, "if 1 < 2 go if", 12);
        Checks.dueOrdersFault(x, "iff 1 < 2 go 1", 0);
        Checks.dueOrdersFault(x, "load 5;goo 1", 7);
    }

    private static void rightContracts() {
        SaltCaravans x = withCaravan();
        Checks.dueContract(x, "owner 1", 1);
        Checks.dueContract(x, "driver 99", 1);
        Checks.dueContract(x, "tribe 000099", 1);
        Checks.dueContract(x, "tribe 1,driver 2,owner 3", 3);
        Checks.dueContract(x, " owner 0 , driver 0 , tribe 1 ", 3);
        Checks.dueContract(x, "owner1,driver2lost tribe3", 2);
        Checks.dueContract(x, "owner 1 lost owner 999999", 1);
        Checks.dueContract(x, "owner 1 lost driver 0", 1);
        Checks.dueContract(x, "tribe 1,driver 0,owner 99  lost  tribe  000100  ", 3);
    }

    private static void wrongContracts() {
        SaltCaravans x = withCaravan();
        Checks.dueContractFault(x, "", 0);
        Checks.dueContractFault(x, "  ", 2);
        Checks.dueContractFault(x, "owner", 5);
        Checks.dueContractFault(x, "owner ", 6);
        Checks.dueContractFault(x, "owners 1", 0);
        Checks.dueContractFault(x, "1 owner", 0);
        Checks.dueContractFault(x, "lost owner 1", 0);
        Checks.dueContractFault(x, "owner 100", 6);
        Checks.dueContractFault(x, "owner 0000001", 6);
        Checks.dueContractFault(x, "owner 1,", 8);
        Checks.dueContractFault(x, "owner 1, ", 9);
        Checks.dueContractFault(x, "owner 1,,driver 1", 8);
        Checks.dueContractFault(x, "owner 1;driver 1", 7);
        Checks.dueContractFault(x, "owner 1 driver 1", 8);
        Checks.dueContractFault(x, "owner 1, owner 2", 9);
        Checks.dueContractFault(x, "owner 1,driver 1,owner 100", 17);
        Checks.dueContractFault(x, "owner 1,driver 1,tribe 1,", 25);
        Checks.dueContractFault(x, "owner 1,driver 1,tribe 1, driver 1", 26);
        Checks.dueContractFault(x, "owner 1,driver 1,tribe 1, xyz", 26);
        Checks.dueContractFault(x, "owner 1,driver 1,tribe 1 tribe 1", 25);
        Checks.dueContractFault(x, "owner 1,lost owner 1", 8);
        Checks.dueContractFault(x, "owner 0", 7);
        Checks.dueContractFault(x, "owner 0  ", 9);
        Checks.dueContractFault(x, "owner 0 x", 8);
        Checks.dueContractFault(x, "owner 0,driver 00 , tribe 000000  lost tribe 1", 34);
        Checks.dueContractFault(x, "owner 0,driver 0", 16);
        Checks.dueContractFault(x, "owner 0,owner 1", 8);
        Checks.dueContractFault(x, "owner 1 lost", 12);
        Checks.dueContractFault(x, "owner 1 lost 5", 13);
        Checks.dueContractFault(x, "owner 1 lost all 5", 13);
        Checks.dueContractFault(x, "owner 1 lost tribe", 18);
        Checks.dueContractFault(x, "owner 1 lost tribe 1000000", 19);
        Checks.dueContractFault(x, "owner 1 lost tribe 5,driver 1", 20);
        Checks.dueContractFault(x, "owner 1 lost tribe 5 lost tribe 5", 21);
        Checks.dueContractFault(x, "go 1", 0);
    }

    private static void wrongTextsChangeNothing() {
        SaltCaravans x = withCaravan();
        Checks.giveOrders(x, 0, "wait 2;go 1");
        x.days(1);
        Checks.feedText(x, "go 1;go 1;go 1;again;x");
        Checks.dueThrowAndStay(x, "wrong orders", Checks.ARGUMENT, () -> x.orders(0));
        x.days(1);
        Checks.due("the wait goes on as it was", x.state(0, 7), 1);
        x.days(1);
        Checks.due("the old order is done", x.state(0, 0), 1);
        Checks.feedText(x, "again");
        Checks.dueThrowAndStay(x, "orders of no caravan", Checks.INDEX, () -> x.orders(1));
        Checks.feedText(x, "again");
        Checks.dueThrowAndStay(x, "orders(-1)", Checks.INDEX, () -> x.orders(-1));
        Checks.feedText(x, "owner 1");
        Checks.dueThrowAndStay(x, "contract of no caravan", Checks.INDEX, () -> x.contract(1));
        Checks.feedText(x, "owner");
        Checks.dueThrowAndStay(x, "contract of no caravan, wrong", Checks.INDEX, () -> x.contract(12));
    }
}

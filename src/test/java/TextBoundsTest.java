/** Terms 2, the texts, sentence by sentence: what just may stand in them, and the first byte of what may not. */
public final class TextBoundsTest {
    private static final int NONE = SaltCaravans.NONE;

    public static void main(String[] args) {
        emptyTexts();
        eachBeginOfOrders();
        eachBeginOfAContract();
        twelveOrders();
        anIfHasASign();
        numbersOfOneToSixDigits();
        sharesOfNinetyNine();
        sharesThatAreAllNothing();
        eachPartyOnce();
        eachShareHasANumber();
        wordsOfOrders();
        wordsOfContracts();
        blanksBetweenAll();
        noOtherBlanks();
        bytesBehindAWord();
        bytesAheadOfAWord();
        bytesWithinANumber();
        bytesBetweenShares();
        fourHundredBytes();
        nothingIsLeftOfEarlierOrders();
        nothingIsLeftOfEarlierContracts();
        nothingIsLeftOfWrongTexts();
        faultOfTheLatest();
        Checks.finish();
    }

    private static SaltCaravans withCaravan() {
        SaltCaravans x = Worlds.towns(1);
        x.caravan(0, 1, 0);
        return x;
    }

    /** What is due is how many there are, or wrongAt(the first wrong byte). */
    private static void dueOrders(String text, int want) {
        if (want > 0) {
            Checks.dueOrders(withCaravan(), text, want);
        } else {
            Checks.dueOrdersFault(withCaravan(), text, wrongAt(want));
        }
    }

    private static void dueContract(String text, int want) {
        if (want > 0) {
            Checks.dueContract(withCaravan(), text, want);
        } else {
            Checks.dueContractFault(withCaravan(), text, wrongAt(want));
        }
    }

    /** A first wrong byte told as an answer, and back again. */
    private static int wrongAt(int at) {
        return -1 - at;
    }

    // "or the text's length, if more must come": of an empty text, and of blanks alone
    private static void emptyTexts() {
        for (int blanks = 0; blanks < 3; blanks++) {
            dueOrders(" ".repeat(blanks), wrongAt(blanks));
            dueContract(" ".repeat(blanks), wrongAt(blanks));
        }
    }

    // "or the text's length, if more must come": of each text that a right one begins with
    private static void eachBeginOfOrders() {
        String text = "if 12<3 go 4;again";
        int[] fault = {0, 0, 2, 3, 4, 5, 6, 7, 8, 8, 10, 11, NONE, 13, 13, 13, 13, 13, NONE};
        for (int n = 0; n <= text.length(); n++) {
            int orders = n == text.length() ? 2 : 1;
            dueOrders(text.substring(0, n), fault[n] == NONE ? orders : wrongAt(fault[n]));
        }
    }

    private static void eachBeginOfAContract() {
        String text = "owner 0,tribe 7 lost driver 8";
        int[] fault = {
            0, 0, 0, 0, 0, 5, 6, 7, 8, 8, 8, 8, 8, 13, 14, NONE, NONE, 16, 16, 16, 20, 21, 21, 21, 21, 21, 21, 27, 28,
            NONE,
        };
        for (int n = 0; n <= text.length(); n++) {
            dueContract(text.substring(0, n), fault[n] == NONE ? 2 : wrongAt(fault[n]));
        }
    }

    // "at most 12"; "a 13th ORDER: of its first word"
    private static void twelveOrders() {
        String eleven = "go 1;".repeat(11);
        dueOrders(eleven + "go 1", 12);
        dueOrders(eleven + "if 1 < 2 again", 12);
        dueOrders(eleven + "go 1 ", 12);
        dueOrders(eleven + "go 1;go 1", wrongAt(60));
        dueOrders(eleven + "go 1 ;  go 1", wrongAt(63));
        dueOrders(eleven + "go 1;if 1 < 2 again", wrongAt(60));
        dueOrders(eleven + "go 1;gone", wrongAt(60));
        dueOrders(eleven + "go 1;", wrongAt(60));
        dueOrders(eleven + "go 1;;", wrongAt(60));
        dueOrders(eleven + "go 1 x", wrongAt(60));
        dueOrders(eleven + "go", wrongAt(57));
        dueOrders("if 1 < 2 again;".repeat(12) + "again", wrongAt(180));
    }

    // "if NUMBER < NUMBER ACT | if NUMBER > NUMBER ACT"
    private static void anIfHasASign() {
        dueOrders("if 1<2 go 3", 1);
        dueOrders("if 1>2 go 3", 1);
        dueOrders("if 1 go 3", wrongAt(5));
        dueOrders("if 1 2 go 3", wrongAt(5));
        dueOrders("if 1 again", wrongAt(5));
        dueOrders("if 1=2 go 3", wrongAt(4));
        dueOrders("if 1<<2 go 3", wrongAt(5));
        dueOrders("if 1<=2 go 3", wrongAt(5));
        dueOrders("if 1><2 go 3", wrongAt(5));
        dueOrders("if <2 go 3", wrongAt(3));
        dueOrders("if 1< go 3", wrongAt(6));
        dueOrders("if 1<2 if 1<2 go 3", wrongAt(7));
        dueOrders("if 1<2;go 3", wrongAt(6));
        dueOrders("if 1<2 again 3", wrongAt(13));
    }

    // "A NUMBER: 1 to 6 digits"; "a NUMBER of more digits": in each place where one can stand
    private static void numbersOfOneToSixDigits() {
        String[] right = {"0", "9", "99", "000000", "000001", "999999", "123456"};
        String[] wrong = {"0000000", "0000001", "1000000", "9999999", "00000000", "12345678901234567890", "-1", "+1"};
        String[] ahead = {"go ", "load ", "sell ", "wait ", "if ", "if 1 < ", "if 1 > "};
        String[] behind = {"", ";again", " ", "", "<5 again", " again", " go 1"};
        for (int i = 0; i < ahead.length; i++) {
            for (String number : right) {
                dueOrders(ahead[i] + number + behind[i], behind[i].startsWith(";") ? 2 : 1);
            }
            for (String number : wrong) {
                dueOrders(ahead[i] + number + behind[i], wrongAt(ahead[i].length()));
            }
            dueOrders(ahead[i] + behind[i], wrongAt(noNumberAt(ahead[i], behind[i])));
        }
        for (String number : right) {
            dueContract("tribe 1 lost owner " + number, 1);
        }
        for (String number : wrong) {
            dueContract("tribe 1 lost owner " + number, wrongAt(19));
            dueContract("tribe " + number, wrongAt(6));
        }
    }

    /** Blanks belong to nothing: the first thing behind them is what cannot stand there. */
    private static int noNumberAt(String ahead, String behind) {
        int at = ahead.length();
        while ((ahead + behind).startsWith(" ", at)) {
            at++;
        }
        return at;
    }

    // "NUMBER of a SHARE at most 99"
    private static void sharesOfNinetyNine() {
        String[] right = {"1", "98", "99", "099", "000099"};
        String[] wrong = {"100", "101", "0100", "000100", "999", "999999"};
        for (String number : right) {
            dueContract("owner " + number, 1);
            dueContract("owner 0,driver 0,tribe " + number, 3);
        }
        for (String number : wrong) {
            dueContract("owner " + number, wrongAt(6));
            dueContract("owner 1 , driver " + number + ",tribe 1", wrongAt(17));
            dueContract("owner 1,driver 1,tribe  " + number, wrongAt(24));
            dueContract("owner 1 lost owner " + number, 1);
        }
    }

    // "not all 0": "of SHARES that are all 0 what comes behind the last of them, or the end"
    private static void sharesThatAreAllNothing() {
        dueContract("owner 0", wrongAt(7));
        dueContract("owner 000000", wrongAt(12));
        dueContract("owner 0 ", wrongAt(8));
        dueContract("owner 0 lost driver 5", wrongAt(8));
        dueContract("owner 0lost driver 5", wrongAt(7));
        dueContract("owner 0;", wrongAt(7));
        dueContract("owner 0 5", wrongAt(8));
        dueContract("owner 0,driver 0", wrongAt(16));
        dueContract("owner 0,driver 0  lost", wrongAt(18));
        dueContract("owner 0,driver 0,tribe 0", wrongAt(24));
        dueContract("owner 0,driver 0,tribe 0 lost owner 9", wrongAt(25));
        dueContract("owner 0,driver 0,tribe 0 x", wrongAt(25));
        dueContract("owner 0,", wrongAt(8));
        dueContract("owner 0,tribe", wrongAt(13));
        dueContract("owner 1", 1);
        dueContract("owner 0,driver 0,tribe 1", 3);
        dueContract("owner 0,driver 1,tribe 0", 3);
        dueContract("owner 1,driver 0,tribe 0", 3);
    }

    // "each at most once among the SHARES": "a PARTY a second time"; behind lost it may stand again
    private static void eachPartyOnce() {
        String[] parties = {"owner", "driver", "tribe"};
        for (String first : parties) {
            for (String second : parties) {
                String text = first + " 1, " + second + " 2";
                dueContract(text, first.equals(second) ? wrongAt(first.length() + 4) : 2);
                dueContract(first + " 1 lost " + second + " 2", 1);
            }
            dueContract("owner 1,driver 2,tribe 3," + first + " 4", wrongAt(25));
            dueContract("owner 1,driver 2,tribe 3 lost " + first + " 4", 3);
            dueContract("owner 1 lost owner 1 lost " + first + " 1", wrongAt(21));
            dueContract("owner 1 lost owner 1," + first + " 1", wrongAt(20));
        }
        dueContract("owner 1,driver 1,owner 1", wrongAt(17));
        dueContract("owner 1,driver 1,driver 1", wrongAt(17));
        dueContract("owner 1,driver 2,tribe 3,", wrongAt(25));
        dueContract("owner 1,driver 2,tribe 3, lost", wrongAt(26));
    }

    // "SHARE: PARTY NUMBER"; "lost PARTY NUMBER"
    private static void eachShareHasANumber() {
        dueContract("owner,driver 1", wrongAt(5));
        dueContract("owner 1,driver", wrongAt(14));
        dueContract("owner 1,driver,tribe 1", wrongAt(14));
        dueContract("owner 1,driver lost tribe 1", wrongAt(15));
        dueContract("owner 1,driver 1,tribe", wrongAt(22));
        dueContract("owner 1,driver 1,tribe lost tribe 1", wrongAt(23));
        dueContract("owner 1,driver 1,tribe 1 1", wrongAt(25));
        dueContract("owner 1 lost", wrongAt(12));
        dueContract("owner 1 lost 5", wrongAt(13));
        dueContract("owner 1 lost lost 5", wrongAt(13));
        dueContract("owner 1 lost tribe", wrongAt(18));
        dueContract("owner 1 lost tribe,", wrongAt(18));
        dueContract("owner 1 lost tribe 5 5", wrongAt(21));
        dueContract("owner 1 5", wrongAt(8));
        dueContract("5 owner", wrongAt(0));
        dueContract(",owner 1", wrongAt(0));
    }

    private static String with(String word, int at, char sign) {
        return word.substring(0, at) + sign + word.substring(at + 1);
    }

    // "Words are as long as a to z go on"; "a word that is none"
    private static void wordsOfOrders() {
        String[] words = {"go", "load", "sell", "wait"};
        for (String word : words) {
            dueOrders(word + " 1", 1);
            dueOrders("again;" + word + "1", 2);
            dueOrders(word + word + " 1", wrongAt(0));
            dueOrders(word + "s 1", wrongAt(0));
            dueOrders("s" + word + " 1", wrongAt(0));
            dueOrders(word.substring(1) + " 1", wrongAt(0));
            for (int i = 0; i < word.length(); i++) {
                dueOrders("again; " + with(word, i, 'q') + " 1", wrongAt(7));
                dueOrders("again; " + with(word, i, (char) (word.charAt(i) - 32)) + " 1", wrongAt(7));
            }
        }
        for (int i = 0; i < 5; i++) {
            dueOrders(with("again", i, 'q'), wrongAt(0));
        }
        dueOrders("xf 1<2 go 3", wrongAt(0));
        dueOrders("ix 1<2 go 3", wrongAt(0));
        dueOrders("ifgo 1<2 go 3", wrongAt(0));
        dueOrders("againagain", wrongAt(0));
        dueOrders("again again", wrongAt(6));
        dueOrders("lost 1", wrongAt(0));
    }

    private static void wordsOfContracts() {
        String[] words = {"owner", "driver", "tribe"};
        for (String word : words) {
            dueContract(word + "1", 1);
            dueContract(word + "s 1", wrongAt(0));
            dueContract(word + word + " 1", wrongAt(0));
            for (int i = 0; i < word.length(); i++) {
                dueContract(with(word, i, 'q') + " 1", wrongAt(0));
                dueContract("tribe 1 lost " + with(word, i, 'q') + " 1", wrongAt(13));
                dueContract(with(word, i, (char) (word.charAt(i) - 32)) + " 1", wrongAt(0));
            }
        }
        for (int i = 0; i < 4; i++) {
            dueContract("owner 1 " + with("lost", i, 'q') + " owner 1", wrongAt(8));
        }
        dueContract("owner 1 losttribe 1", wrongAt(8));
        dueContract("owner 1 los tribe 1", wrongAt(8));
        dueContract("go 1", wrongAt(0));
    }

    // "between all there may be blanks (32), also ahead and behind"
    private static void blanksBetweenAll() {
        dueOrders("if1<2go3;again;if4>5again", 3);
        dueOrders(" if 1 < 2 go 3 ; again ; if 4 > 5 again ", 3);
        dueOrders("   if   1   <   2   go   3   ;   again   ;   if   4   >   5   again   ", 3);
        dueContract("owner1,driver2,tribe3lost owner4", 3);
        dueContract(" owner 1 , driver 2 , tribe 3 lost owner 4 ", 3);
        dueContract("   owner   1   ,   driver   2   ,   tribe   3   lost   owner   4   ", 3);
        // Within a word or a number there may be none.
        dueOrders("g o 1", wrongAt(0));
        dueOrders("go 1 1", wrongAt(5));
        dueOrders("i f 1<2 go 3", wrongAt(0));
        dueContract("owner 1 lo st owner 4", wrongAt(8));
        dueContract("owner 9 9", wrongAt(8));
    }

    private static void noOtherBlanks() {
        int[] none = {0, 9, 10, 11, 12, 13, 31, 33, 95, 127, 160};
        for (int b : none) {
            char sign = (char) b;
            dueOrders(sign + "go 1", wrongAt(0));
            dueOrders("go" + sign + "1", wrongAt(2));
            dueOrders("go 1" + sign, wrongAt(4));
            dueOrders("go 1;" + sign + "again", wrongAt(5));
            dueContract("owner 1," + sign + "driver 1", wrongAt(8));
        }
    }

    private static boolean isLetter(int b) {
        return b >= 'a' && b <= 'z';
    }

    private static boolean isDigit(int b) {
        return b >= '0' && b <= '9';
    }

    private static void bytesBehindAWord() {
        for (int b = 0; b < 256; b++) {
            boolean right = b == ' ' || isDigit(b);
            dueOrders("go" + (char) b + "1", right ? 1 : wrongAt(isLetter(b) ? 0 : 2));
            dueContract("owner" + (char) b + "1", right ? 1 : wrongAt(isLetter(b) ? 0 : 5));
        }
    }

    private static void bytesAheadOfAWord() {
        for (int b = 0; b < 256; b++) {
            dueOrders((char) b + "go 1", b == ' ' ? 1 : wrongAt(0));
            dueContract((char) b + "owner 1", b == ' ' ? 1 : wrongAt(0));
        }
    }

    private static void bytesWithinANumber() {
        for (int b = 0; b < 256; b++) {
            // Behind a blank the second number is wrong, behind a ';' the order that it should be.
            boolean next = b == ' ' || b == ';';
            dueOrders("go 1" + (char) b + "2", isDigit(b) ? 1 : wrongAt(next ? 5 : 4));
        }
    }

    private static void bytesBetweenShares() {
        for (int b = 0; b < 256; b++) {
            boolean next = b == ' ' || isDigit(b);
            dueContract("owner 1" + (char) b + "driver 2", b == ',' ? 2 : wrongAt(next ? 8 : 7));
        }
    }

    // The TAPE has 400 bytes at most: a text may be as long.
    private static void fourHundredBytes() {
        String orders = "if 000001 < 000002 load 000003 ; ".repeat(11) + "if 1 < 2 load 3" + " ".repeat(22);
        Checks.due("a full TAPE", orders.length(), 400);
        dueOrders(orders, 12);
        dueOrders(orders.substring(0, 399) + ";", wrongAt(400));
        dueOrders(orders.substring(0, 399) + "x", wrongAt(399));
        dueOrders(" ".repeat(400), wrongAt(400));
        dueOrders(" ".repeat(399) + "a", wrongAt(399));
        dueOrders(" ".repeat(395) + "again", 1);
        dueOrders(" ".repeat(394) + "wait 1", 1);
        dueOrders(" ".repeat(396) + "wait", wrongAt(400));
        dueOrders("a".repeat(400), wrongAt(0));
        dueOrders("go " + "1".repeat(397), wrongAt(3));
        dueContract(" ".repeat(393) + "tribe 9", 1);
        dueContract(" ".repeat(393) + "tribe 0", wrongAt(400));
        dueContract(" ".repeat(395) + "tribe", wrongAt(400));
        dueContract("tribe 9" + " ".repeat(389) + "lost", wrongAt(400));
        dueContract("tribe 9" + " ".repeat(392) + ",", wrongAt(400));
    }

    // "it is a CARAVAN's ORDERS (the first one's turn is next)": nothing of the earlier ones stays
    private static void nothingIsLeftOfEarlierOrders() {
        SaltCaravans x = Worlds.lakeAndMarket(9, 9, 5);
        Checks.giveOrders(x, 0, "if 1 < 5 load 1;if 1 < 5 load 1;load 1");
        Checks.giveOrders(x, 0, "load 2;load 3");
        x.days(1);
        Checks.due("no if is left", x.state(0, 3), 2);
        x.days(5);
        Checks.due("no third one is left", x.state(0, 3), 5);
        Checks.due("none is next", x.state(0, 7), 2);
        Checks.giveOrders(x, 0, "wait 3;again");
        x.days(2);
        Checks.giveOrders(x, 0, "wait 2;load 1");
        Checks.due("the first one is next", x.state(0, 7), 0);
        x.days(1);
        Checks.due("of a wait one day is done", x.state(0, 7), 0);
        x.days(1);
        Checks.due("the wait is its own", x.state(0, 7), 1);
    }

    // "it is a CARAVAN's CONTRACT, which counts from its next setting out on": nothing of the earlier one stays
    private static void nothingIsLeftOfEarlierContracts() {
        SaltCaravans x = Worlds.dryWay(10, 1, "owner 1,driver 2,tribe 3 lost tribe 9", "load 40;go 1;go 2");
        Checks.giveContract(x, 0, "driver 7");
        x.days(13);
        Checks.due("SLABS are LOST", x.count(6) > 0, true);
        Checks.due("no lost is left", x.count(9), 0);
        SaltCaravans y = Worlds.lakeAndMarket(10, 100, 5);
        Checks.giveContract(y, 0, "owner 1,driver 2,tribe 3");
        Checks.giveContract(y, 0, "tribe 1,driver 1");
        Checks.giveOrders(y, 0, "load 6;go 1;sell 6");
        y.days(3);
        Checks.due("two SHARES", y.count(9), 2);
        Checks.dueEntry(y, 0, 0, 2, 3, 30, 30);
        Checks.dueEntry(y, 1, 0, 1, 3, 30, 30);
    }

    // "IllegalArgumentException: the text is wrong: all stays."
    private static void nothingIsLeftOfWrongTexts() {
        SaltCaravans x = Worlds.lakeAndMarket(10, 100, 5);
        Checks.giveContract(x, 0, "driver 1");
        Checks.giveOrders(x, 0, "load 6;go 1;sell 6");
        Checks.dueContractFault(x, "tribe 5,owner 5 lost owner 5 x", 29);
        Checks.dueOrdersFault(x, "wait 5;again;load 1;go 0;x", 25);
        x.days(3);
        Checks.due("one SHARE", x.count(9), 1);
        Checks.dueEntry(x, 0, 0, 1, 3, 60, 60);
    }

    // "The first wrong byte of the latest orders() or contract() .. NONE without one, and ahead of any."
    private static void faultOfTheLatest() {
        SaltCaravans x = new SaltCaravans();
        Checks.due("ahead of any", x.fault(), NONE);
        Checks.dueThrow("of no caravan", Checks.INDEX, () -> x.orders(0));
        Checks.due("there is no such caravan", x.fault(), NONE);
        x.station(Checks.TOWN, 0, 0, 0);
        x.caravan(0, 1, 0);
        Checks.dueOrdersFault(x, "go x", 3);
        Checks.dueContractFault(x, "owner 100", 6);
        Checks.dueThrow("of no caravan", Checks.INDEX, () -> x.contract(1));
        Checks.due("the latest of a caravan that there is", x.fault(), 6);
        Checks.due("asked twice", x.fault(), 6);
        Checks.dueOrdersFault(x, "", 0);
        Checks.dueOrders(x, "again", 1);
        Checks.dueContractFault(x, "", 0);
        Checks.dueContract(x, "owner 1", 1);
    }
}

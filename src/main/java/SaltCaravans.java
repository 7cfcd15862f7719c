import java.util.NoSuchElementException;

/** Caravans that carry salt from lakes to markets, by orders and contracts in texts, with accounts of the money. */
public final class SaltCaravans {
    public static final int NONE = -1;

    private static final int MOST_STATIONS = 12;
    private static final int MOST_STAGES = 30;
    private static final int MOST_CARAVANS = 12;
    private static final int MOST_ORDERS = 12;
    private static final int MOST_ENTRIES = 300;
    private static final int MOST_CORRECTIONS = 100;
    private static final int MOST_BYTES = 400;
    private static final int BYTES_OF_FEED = 20;
    private static final int MOST_PEOPLE = 3;
    private static final int MOST_FLOW = 1000;
    private static final int MOST_ROOM = 10000;
    private static final int MOST_TOP = 1000;
    private static final int MOST_FALL = 100;
    private static final int MOST_STAGE_DAYS = 9;
    private static final int MOST_CAMELS = 500;
    private static final int MOST_DAYS = 200;
    private static final int MOST_MONEY = 1000000;
    private static final int MOST_SPLIT = 5000;
    private static final int HALF_OF_PRICES = 512;
    private static final int SLABS_OF_CAMEL = 4;
    private static final int WATER_OF_CAMEL = 10;

    private static final int LAKE = 1;
    private static final int WELL = 2;
    private static final int MARKET = 3;

    private static final int AT_STATION = 0;
    private static final int ON_STAGE = 1;
    private static final int GONE = 2;

    private static final int ALWAYS = 0;
    private static final int BELOW = 1;
    private static final int ABOVE = 2;

    private static final int GO = 0;
    private static final int LOAD = 1;
    private static final int SELL = 2;
    private static final int WAIT = 3;
    private static final int AGAIN = 4;

    private static final int OWNER = 0;
    private static final int DRIVER = 1;
    private static final int TRIBE = 2;
    private static final int PARTIES = 3;

    private static final int MOST_DIGITS = 6;
    private static final int MOST_NUMBER = 999999;
    private static final int MOST_SHARE = 99;

    private final Tape tape;
    private final OrderList readOrders;
    private final Contract readContract;
    private int firstWrong;

    private final Station[] stations;
    private int stationCount;
    private final int[][] stageDays;
    private int stageCount;
    private final Caravan[] caravans;
    private int caravanCount;
    private final int[] queue;
    private final Ledger ledger;
    private final int[][] lostOnWay;

    private int today;
    private long slabsLoaded;
    private long slabsSold;
    private long slabsLost;
    private long camelsDied;
    private long moneyOfSells;

    public SaltCaravans() {
        tape = new Tape();
        readOrders = new OrderList();
        readContract = new Contract();
        firstWrong = NONE;
        stations = new Station[MOST_STATIONS];
        for (int i = 0; i < MOST_STATIONS; i++) {
            stations[i] = new Station();
        }
        caravans = new Caravan[MOST_CARAVANS];
        for (int i = 0; i < MOST_CARAVANS; i++) {
            caravans[i] = new Caravan(i);
        }
        queue = new int[MOST_CARAVANS];
        stageDays = new int[MOST_STATIONS][MOST_STATIONS];
        lostOnWay = new int[MOST_STATIONS][MOST_STATIONS];
        ledger = new Ledger();
    }

    // ---- the face ----

    public int feed(int a, int b, int c, int d, int e) {
        if (tape.length > MOST_BYTES - BYTES_OF_FEED) {
            return NONE;
        }
        tape.addNumber(a);
        tape.addNumber(b);
        tape.addNumber(c);
        tape.addNumber(d);
        tape.addNumber(e);
        return tape.length;
    }

    public boolean end(int n) {
        if (n < 0 || n > tape.length) {
            return false;
        }
        tape.length = n;
        return true;
    }

    public int station(int sort, int a, int b, int c)
            throws IllegalArgumentException, UnsupportedOperationException {
        if (!isStation(sort, a, b, c)) {
            throw new IllegalArgumentException("a number of the station is none");
        }
        if (stationCount >= MOST_STATIONS) {
            throw new UnsupportedOperationException("there are 12 stations");
        }
        Station s = stations[stationCount];
        s.sort = sort;
        if (sort == WELL) {
            s.digWell(a, b, c);
        }
        if (sort == MARKET) {
            s.openMarket(a, b);
        }
        stationCount++;
        return stationCount - 1;
    }

    public int stage(int from, int to, int days)
            throws IndexOutOfBoundsException, IllegalArgumentException, UnsupportedOperationException {
        if (!hasStation(from) || !hasStation(to)) {
            throw new IndexOutOfBoundsException("there is no such station");
        }
        if (from == to || !isWithin(days, 1, MOST_STAGE_DAYS)) {
            throw new IllegalArgumentException("the stations are one, or the days are none");
        }
        if (stageCount >= MOST_STAGES) {
            throw new UnsupportedOperationException("there are 30 stages");
        }
        if (stageDays[from][to] == 0) {
            stageDays[from][to] = days;
            stageDays[to][from] = days;
        }
        stageCount++;
        return stageCount;
    }

    public int caravan(int people, int camels, int station)
            throws IndexOutOfBoundsException, IllegalArgumentException, UnsupportedOperationException {
        if (!hasStation(station)) {
            throw new IndexOutOfBoundsException("there is no such station");
        }
        if (!isWithin(people, 0, MOST_PEOPLE) || !isWithin(camels, 1, MOST_CAMELS)) {
            throw new IllegalArgumentException("a number of the caravan is none");
        }
        if (caravanCount >= MOST_CARAVANS) {
            throw new UnsupportedOperationException("there are 12 caravans");
        }
        caravans[caravanCount].gather(people, camels, station, today);
        caravanCount++;
        return caravanCount - 1;
    }

    public int orders(int caravan) throws IndexOutOfBoundsException, IllegalArgumentException {
        judgeText(caravan, readOrders.readFrom(tape));
        caravans[caravan].takeOrders(readOrders);
        return readOrders.count;
    }

    public int contract(int caravan) throws IndexOutOfBoundsException, IllegalArgumentException {
        judgeText(caravan, readContract.readFrom(tape));
        caravans[caravan].told.copyFrom(readContract);
        return readContract.shares;
    }

    public int fault() {
        return firstWrong;
    }

    public int days(int n) throws IllegalArgumentException {
        if (!isWithin(n, 0, MOST_DAYS)) {
            throw new IllegalArgumentException("not 0 to 200 days");
        }
        for (int i = 0; i < n; i++) {
            passDay();
        }
        return today;
    }

    public int look(int station, int what) throws IndexOutOfBoundsException, NoSuchElementException {
        if (!hasStation(station)) {
            throw new IndexOutOfBoundsException("there is no such station");
        }
        Station s = stations[station];
        switch (what) {
            case 0:
                return s.sort;
            case 1:
                return s.sort == WELL ? s.water : s.price();
            case 2:
                return s.sold;
            case 3:
                return caravansAt(station);
            default:
                throw new NoSuchElementException("a station has no such thing");
        }
    }

    public int state(int caravan, int what) throws IndexOutOfBoundsException, NoSuchElementException {
        if (!hasCaravan(caravan)) {
            throw new IndexOutOfBoundsException("there is no such caravan");
        }
        Caravan c = caravans[caravan];
        switch (what) {
            case 0:
                return c.place;
            case 1:
                return c.station;
            case 2:
                return c.camels;
            case 3:
                return c.slabs;
            case 4:
                return c.water;
            case 5:
                return c.daysToGo;
            case 6:
                return c.came;
            case 7:
                return c.turn;
            default:
                throw new NoSuchElementException("a caravan has no such thing");
        }
    }

    public int knows(int caravan, int station, boolean day) throws IndexOutOfBoundsException {
        if (!hasCaravan(caravan) || !hasStation(station)) {
            throw new IndexOutOfBoundsException("there is no such caravan or station");
        }
        Caravan c = caravans[caravan];
        return day ? c.knownDay[station] : c.knownPrice[station];
    }

    public int lost(int from, int to) throws IndexOutOfBoundsException {
        if (!hasStation(from) || !hasStation(to)) {
            throw new IndexOutOfBoundsException("there is no such station");
        }
        return lostOnWay[from][to];
    }

    public int entry(int entry, int what) throws IndexOutOfBoundsException, NoSuchElementException {
        if (!ledger.has(entry)) {
            throw new IndexOutOfBoundsException("there is no such entry");
        }
        switch (what) {
            case 0:
                return ledger.caravan[entry];
            case 1:
                return ledger.party[entry];
            case 2:
                return ledger.day[entry];
            case 3:
                return ledger.moneyNow[entry];
            case 4:
                return ledger.moneyAtFirst[entry];
            default:
                throw new NoSuchElementException("an entry has no such thing");
        }
    }

    public boolean correct(int entry, int money) throws IndexOutOfBoundsException, IllegalArgumentException {
        if (!ledger.has(entry)) {
            throw new IndexOutOfBoundsException("there is no such entry");
        }
        if (!isWithin(money, -MOST_MONEY, MOST_MONEY)) {
            throw new IllegalArgumentException("not so much money");
        }
        return ledger.putRight(entry, money, today);
    }

    public long balance(int caravan, int party, int day, int known)
            throws IndexOutOfBoundsException, IllegalArgumentException {
        if (!hasCaravan(caravan)) {
            throw new IndexOutOfBoundsException("there is no such caravan");
        }
        if (!isWithin(party, 0, PARTIES - 1)) {
            throw new IllegalArgumentException("there is no such party");
        }
        return ledger.sumOf(caravan, party, day, known);
    }

    public int split(int slabs) throws IllegalArgumentException {
        if (!isWithin(slabs, 0, MOST_SPLIT)) {
            throw new IllegalArgumentException("not 0 to 5000 slabs");
        }
        int price = priceOfLast(slabs);
        long money = 0;
        long left = slabs;
        for (int i = 0; i < stationCount; i++) {
            int dearer = stations[i].slabsOfPrice(price + 1);
            money += stations[i].moneyOfNext(dearer);
            left -= dearer;
        }
        return (int) (money + left * price);
    }

    public long count(int what) {
        switch (what) {
            case 0:
                return today;
            case 1:
                return stationCount;
            case 2:
                return stageCount;
            case 3:
                return caravanCount;
            case 4:
                return slabsLoaded;
            case 5:
                return slabsSold;
            case 6:
                return slabsLost;
            case 7:
                return slabsCarried();
            case 8:
                return camelsDied;
            case 9:
                return ledger.entries;
            case 10:
                return moneyOfSells;
            case 11:
                return ledger.corrections;
            default:
                return NONE;
        }
    }

    // ---- what there is ----

    private static boolean isWithin(int number, int least, int most) {
        return number >= least && number <= most;
    }

    private static boolean isStation(int sort, int a, int b, int c) {
        if (sort == WELL) {
            return isWithin(a, 0, MOST_FLOW) && isWithin(b, 1, MOST_ROOM) && isWithin(c, NONE, MOST_PEOPLE);
        }
        if (sort == MARKET) {
            return isWithin(a, 1, MOST_TOP) && isWithin(b, 1, MOST_FALL);
        }
        return isWithin(sort, 0, MARKET);
    }

    private boolean hasStation(int number) {
        return number >= 0 && number < stationCount;
    }

    private boolean hasCaravan(int number) {
        return number >= 0 && number < caravanCount;
    }

    // The tape is used up first, as it is also by a call that throws.
    private void judgeText(int caravan, boolean right) {
        tape.length = 0;
        if (!hasCaravan(caravan)) {
            throw new IndexOutOfBoundsException("there is no such caravan");
        }
        firstWrong = right ? NONE : tape.at;
        if (!right) {
            throw new IllegalArgumentException("the text is wrong");
        }
    }

    private int caravansAt(int station) {
        int there = 0;
        for (int i = 0; i < caravanCount; i++) {
            if (caravans[i].isAt(station)) {
                there++;
            }
        }
        return there;
    }

    private long slabsCarried() {
        long carried = 0;
        for (int i = 0; i < caravanCount; i++) {
            carried += caravans[i].slabs;
        }
        return carried;
    }

    // Prices only fall while slabs are sold, so the best sale takes the dearest slabs of all markets first:
    // this is the highest price at which, or dearer, more slabs could be sold than there are; 0 if at none.
    private int priceOfLast(int slabs) {
        int price = 0;
        for (int step = HALF_OF_PRICES; step > 0; step /= 2) {
            if (slabsOfPriceInAll(price + step) > slabs) {
                price += step;
            }
        }
        return price;
    }

    private int slabsOfPriceInAll(int price) {
        int slabs = 0;
        for (int i = 0; i < stationCount; i++) {
            slabs += stations[i].slabsOfPrice(price);
        }
        return slabs;
    }

    // ---- a day ----

    private void passDay() {
        today++;
        for (int i = 0; i < stationCount; i++) {
            stations[i].passDay();
        }
        for (int i = 0; i < caravanCount; i++) {
            if (caravans[i].place == ON_STAGE) {
                travel(caravans[i]);
            }
        }
        seePrices();
        tellLetters();
        giveWater();
        for (int i = 0; i < caravanCount; i++) {
            if (caravans[i].place == AT_STATION) {
                doOrder(caravans[i]);
            }
        }
    }

    private void travel(Caravan c) {
        camelsDied += c.drink();
        int lost = c.dropSlabs();
        if (lost > 0) {
            slabsLost += lost;
            lostOnWay[c.from][c.station] += lost;
            ledger.writeLoss(c, lost, today);
        }
        c.goOn(today);
    }

    private void seePrices() {
        for (int i = 0; i < caravanCount; i++) {
            Caravan c = caravans[i];
            if (c.place == AT_STATION && stations[c.station].sort == MARKET) {
                c.knownPrice[c.station] = stations[c.station].price();
                c.knownDay[c.station] = today;
            }
        }
    }

    private void tellLetters() {
        for (int i = 0; i < caravanCount; i++) {
            if (caravans[i].place == AT_STATION && isFirstThere(i)) {
                tellLettersAt(i);
            }
        }
    }

    private boolean isFirstThere(int number) {
        for (int i = 0; i < number; i++) {
            if (caravans[i].isAt(caravans[number].station)) {
                return false;
            }
        }
        return true;
    }

    // The first one there hears all the others, and then tells them the latest of all.
    private void tellLettersAt(int first) {
        Caravan teller = caravans[first];
        for (int i = first + 1; i < caravanCount; i++) {
            if (caravans[i].isAt(teller.station)) {
                teller.hear(caravans[i], stationCount);
            }
        }
        for (int i = first + 1; i < caravanCount; i++) {
            if (caravans[i].isAt(teller.station)) {
                caravans[i].hear(teller, stationCount);
            }
        }
    }

    private void giveWater() {
        for (int i = 0; i < caravanCount; i++) {
            Caravan c = caravans[i];
            if (c.place == AT_STATION && stations[c.station].sort != WELL) {
                c.water += c.roomForWater();
            }
        }
        for (int i = 0; i < stationCount; i++) {
            if (stations[i].sort == WELL) {
                giveWaterOfWell(i);
            }
        }
    }

    private void giveWaterOfWell(int station) {
        Station well = stations[station];
        int waiting = 0;
        for (int i = 0; i < caravanCount; i++) {
            if (caravans[i].isAt(station)) {
                queueUp(i, waiting, well.people);
                waiting++;
            }
        }
        for (int i = 0; i < waiting; i++) {
            Caravan c = caravans[queue[i]];
            int taken = Math.min(c.roomForWater(), well.water);
            c.water += taken;
            well.water -= taken;
        }
    }

    // They come by numbers, so one that is not ahead of another by right stays behind it.
    private void queueUp(int number, int waiting, int people) {
        int place = waiting;
        while (place > 0 && caravans[number].isAheadOf(caravans[queue[place - 1]], people)) {
            queue[place] = queue[place - 1];
            place--;
        }
        queue[place] = number;
    }

    // ---- orders ----

    private void doOrder(Caravan c) {
        int turn = c.turn;
        if (turn < 0 || turn >= c.orders.count) {
            return;
        }
        if (c.daysToWait > 0) {
            c.waitOn();
            return;
        }
        c.turn = turn + 1;
        if (holds(c, turn)) {
            doAct(c, c.orders.act[turn], c.orders.number[turn]);
        }
    }

    private boolean holds(Caravan c, int order) {
        int test = c.orders.test[order];
        if (test == ALWAYS) {
            return true;
        }
        int market = c.orders.market[order];
        if (!hasStation(market) || c.knownDay[market] == NONE) {
            return false;
        }
        int price = c.knownPrice[market];
        int bound = c.orders.bound[order];
        return test == BELOW ? price < bound : price > bound;
    }

    private void doAct(Caravan c, int act, int number) {
        switch (act) {
            case GO:
                setOut(c, number);
                break;
            case LOAD:
                loadSlabs(c, number);
                break;
            case SELL:
                sellSlabs(c, number);
                break;
            case WAIT:
                c.startWait(number);
                break;
            case AGAIN:
                c.turn = 0;
                break;
            default:
                break;
        }
    }

    private void setOut(Caravan c, int to) {
        if (hasStation(to) && stageDays[c.station][to] > 0) {
            c.setOut(to, stageDays[c.station][to]);
        }
    }

    private void loadSlabs(Caravan c, int most) {
        if (stations[c.station].sort == LAKE) {
            int slabs = Math.min(most, c.roomForSlabs());
            c.slabs += slabs;
            slabsLoaded += slabs;
        }
    }

    private void sellSlabs(Caravan c, int most) {
        Station market = stations[c.station];
        if (market.sort == MARKET) {
            int slabs = Math.min(most, c.slabs);
            long money = market.moneyOfNext(slabs);
            market.sold += slabs;
            c.slabs -= slabs;
            slabsSold += slabs;
            moneyOfSells += money;
            ledger.writeShares(c, money, today);
        }
    }

    // ---- the classes inside ----

    /** A town, a lake, a well or a market; what its sort does not have is 0. */
    private static final class Station {
        int sort;
        int people;
        int flow;
        int room;
        int water;
        int top;
        int fall;
        int sold;

        void digWell(int wellFlow, int wellRoom, int wellPeople) {
            flow = wellFlow;
            room = wellRoom;
            people = wellPeople;
            water = wellRoom;
        }

        void openMarket(int marketTop, int marketFall) {
            top = marketTop;
            fall = marketFall;
        }

        void passDay() {
            water = Math.min(room, water + flow);
            sold = Math.max(0, sold - fall);
        }

        int price() {
            return fall <= 0 ? 0 : Math.max(0, top - sold / fall);
        }

        /** How many slabs can be sold here for this price (1 at least) or more. */
        int slabsOfPrice(int price) {
            return Math.max(0, (top - price + 1) * fall - sold);
        }

        long moneyOfNext(int slabs) {
            return moneyOfFirst((long) sold + slabs) - moneyOfFirst(sold);
        }

        // Sums whole steps of the price at once: slab by slab would be slow for big caravans.
        private long moneyOfFirst(long slabs) {
            if (fall <= 0) {
                return 0;
            }
            long paid = Math.min(slabs, (long) top * fall);
            long steps = paid / fall;
            long onLastStep = paid % fall;
            return fall * (steps * top - steps * (steps - 1) / 2) + onLastStep * (top - steps);
        }
    }

    /** A caravan with its orders, its contracts and what it knows of prices. */
    private static final class Caravan {
        final int number;
        int people;
        int camels;
        int slabs;
        int water;
        int place;
        int station;
        int from;
        int daysToGo;
        int came;
        int turn;
        int daysToWait;
        final OrderList orders;
        final Contract told;
        final Contract counting;
        final int[] knownPrice;
        final int[] knownDay;

        Caravan(int itsNumber) {
            number = itsNumber;
            orders = new OrderList();
            told = new Contract();
            counting = new Contract();
            knownPrice = new int[MOST_STATIONS];
            knownDay = new int[MOST_STATIONS];
            for (int i = 0; i < MOST_STATIONS; i++) {
                knownPrice[i] = NONE;
                knownDay[i] = NONE;
            }
        }

        void gather(int itsPeople, int itsCamels, int where, int today) {
            people = itsPeople;
            camels = itsCamels;
            water = WATER_OF_CAMEL * itsCamels;
            place = AT_STATION;
            station = where;
            from = where;
            came = today;
        }

        boolean isAt(int where) {
            return place == AT_STATION && station == where;
        }

        int roomForWater() {
            return WATER_OF_CAMEL * camels - water;
        }

        int roomForSlabs() {
            return SLABS_OF_CAMEL * camels - slabs;
        }

        /** Takes a day's water and answers how many camels died for want of it. */
        int drink() {
            int lacking = Math.max(0, camels - water);
            water = Math.max(0, water - camels);
            int died = (lacking + 1) / 2;
            camels -= died;
            return died;
        }

        /** Leaves the slabs that the camels cannot carry any more and answers how many. */
        int dropSlabs() {
            int over = Math.max(0, slabs - SLABS_OF_CAMEL * camels);
            slabs -= over;
            return over;
        }

        void goOn(int today) {
            if (camels <= 0) {
                place = GONE;
                daysToGo = 0;
                return;
            }
            daysToGo--;
            if (daysToGo <= 0) {
                place = AT_STATION;
                came = today;
            }
        }

        void hear(Caravan other, int stationCount) {
            for (int i = 0; i < stationCount && i < MOST_STATIONS; i++) {
                if (other.knownDay[i] > knownDay[i]) {
                    knownDay[i] = other.knownDay[i];
                    knownPrice[i] = other.knownPrice[i];
                }
            }
        }

        boolean isAheadOf(Caravan other, int wellPeople) {
            boolean own = people == wellPeople;
            boolean otherOwn = other.people == wellPeople;
            return own == otherOwn ? came < other.came : own;
        }

        void takeOrders(OrderList list) {
            orders.copyFrom(list);
            turn = 0;
            daysToWait = 0;
        }

        void setOut(int to, int days) {
            from = station;
            station = to;
            place = ON_STAGE;
            daysToGo = days;
            counting.copyFrom(told);
        }

        // The turn was passed on already: a longer wait takes it back until its last day.
        void startWait(int days) {
            if (days > 1) {
                daysToWait = days - 1;
                turn--;
            }
        }

        void waitOn() {
            daysToWait--;
            if (daysToWait <= 0) {
                turn++;
            }
        }
    }

    /** The orders of a text, a row of numbers each. */
    private static final class OrderList {
        int count;
        final int[] test;
        final int[] market;
        final int[] bound;
        final int[] act;
        final int[] number;

        OrderList() {
            test = new int[MOST_ORDERS];
            market = new int[MOST_ORDERS];
            bound = new int[MOST_ORDERS];
            act = new int[MOST_ORDERS];
            number = new int[MOST_ORDERS];
        }

        void copyFrom(OrderList other) {
            count = other.count;
            System.arraycopy(other.test, 0, test, 0, MOST_ORDERS);
            System.arraycopy(other.market, 0, market, 0, MOST_ORDERS);
            System.arraycopy(other.bound, 0, bound, 0, MOST_ORDERS);
            System.arraycopy(other.act, 0, act, 0, MOST_ORDERS);
            System.arraycopy(other.number, 0, number, 0, MOST_ORDERS);
        }

        /** False if the text is wrong: the tape is at its first wrong byte then. */
        boolean readFrom(Tape tape) {
            tape.rewind();
            for (int i = 0; i < MOST_ORDERS; i++) {
                if (!readTest(tape, i) || !readAct(tape, i)) {
                    return false;
                }
                if (!tape.takeSign(';')) {
                    count = i + 1;
                    return tape.isAtEnd();
                }
            }
            return false;
        }

        private boolean readTest(Tape tape, int i) {
            test[i] = ALWAYS;
            if (!tape.takeWord("if")) {
                return true;
            }
            market[i] = tape.takeNumber(MOST_NUMBER);
            if (market[i] == NONE) {
                return false;
            }
            if (tape.takeSign('<')) {
                test[i] = BELOW;
            } else if (tape.takeSign('>')) {
                test[i] = ABOVE;
            } else {
                return false;
            }
            bound[i] = tape.takeNumber(MOST_NUMBER);
            return bound[i] != NONE;
        }

        private boolean readAct(Tape tape, int i) {
            act[i] = takeAct(tape);
            if (act[i] == NONE) {
                return false;
            }
            if (act[i] == AGAIN) {
                return true;
            }
            number[i] = tape.takeNumber(MOST_NUMBER);
            return number[i] != NONE;
        }

        private static int takeAct(Tape tape) {
            if (tape.takeWord("go")) {
                return GO;
            }
            if (tape.takeWord("load")) {
                return LOAD;
            }
            if (tape.takeWord("sell")) {
                return SELL;
            }
            if (tape.takeWord("wait")) {
                return WAIT;
            }
            return tape.takeWord("again") ? AGAIN : NONE;
        }
    }

    /** The shares of a text and who pays for lost slabs; at first all is the owner's, as it is without a contract. */
    private static final class Contract {
        int shares;
        final int[] party;
        final int[] number;
        int sum;
        int lostParty;
        int lostNumber;

        Contract() {
            party = new int[PARTIES];
            number = new int[PARTIES];
            shares = 1;
            party[0] = OWNER;
            number[0] = 1;
            sum = 1;
            lostParty = NONE;
        }

        void copyFrom(Contract other) {
            shares = other.shares;
            sum = other.sum;
            lostParty = other.lostParty;
            lostNumber = other.lostNumber;
            System.arraycopy(other.party, 0, party, 0, PARTIES);
            System.arraycopy(other.number, 0, number, 0, PARTIES);
        }

        /** What a share has of the money before the rest is given away. */
        long partOf(long money, int share) {
            return sum <= 0 ? 0 : money * number[share] / sum;
        }

        /** False if the text is wrong: the tape is at its first wrong byte then. */
        boolean readFrom(Tape tape) {
            tape.rewind();
            shares = 0;
            sum = 0;
            for (int i = 0; i < PARTIES; i++) {
                if (!readShare(tape)) {
                    return false;
                }
                if (!tape.takeSign(',')) {
                    return sum > 0 && readLost(tape) && tape.isAtEnd();
                }
            }
            // A fourth share could only have a party a second time.
            return false;
        }

        private boolean readShare(Tape tape) {
            int who = tape.partyAhead();
            if (who == NONE || hasParty(who)) {
                return false;
            }
            tape.takeAnyWord();
            int share = tape.takeNumber(MOST_SHARE);
            if (share == NONE || shares >= PARTIES) {
                return false;
            }
            party[shares] = who;
            number[shares] = share;
            sum += share;
            shares++;
            return true;
        }

        private boolean hasParty(int who) {
            for (int i = 0; i < shares && i < PARTIES; i++) {
                if (party[i] == who) {
                    return true;
                }
            }
            return false;
        }

        private boolean readLost(Tape tape) {
            lostParty = NONE;
            lostNumber = 0;
            if (!tape.takeWord("lost")) {
                return true;
            }
            lostParty = tape.partyAhead();
            if (lostParty == NONE) {
                return false;
            }
            tape.takeAnyWord();
            lostNumber = tape.takeNumber(MOST_NUMBER);
            return lostNumber != NONE;
        }
    }

    /** The bytes that were fed, and how far they are read: at is the begin of the next thing, or the end. */
    private static final class Tape {
        final byte[] bytes;
        int length;
        int at;

        Tape() {
            bytes = new byte[MOST_BYTES];
        }

        void addNumber(int number) {
            for (int shift = 24; shift >= 0 && length < MOST_BYTES; shift -= 8) {
                bytes[length] = (byte) (number >> shift);
                length++;
            }
        }

        void rewind() {
            moveTo(0);
        }

        boolean isAtEnd() {
            return at >= length;
        }

        boolean takeSign(char sign) {
            if (at >= length || bytes[at] != sign) {
                return false;
            }
            moveTo(at + 1);
            return true;
        }

        boolean takeWord(String word) {
            if (!isWordAhead(word)) {
                return false;
            }
            moveTo(at + word.length());
            return true;
        }

        void takeAnyWord() {
            moveTo(endOfRun('a', 'z'));
        }

        int partyAhead() {
            if (isWordAhead("owner")) {
                return OWNER;
            }
            if (isWordAhead("driver")) {
                return DRIVER;
            }
            return isWordAhead("tribe") ? TRIBE : NONE;
        }

        /** NONE, and nothing is taken, if there is no number ahead, or one too long or too big. */
        int takeNumber(int most) {
            int end = endOfRun('0', '9');
            if (end == at || end - at > MOST_DIGITS) {
                return NONE;
            }
            int number = 0;
            for (int i = at; i < end && i < MOST_BYTES; i++) {
                number = number * 10 + bytes[i] - '0';
            }
            if (number > most) {
                return NONE;
            }
            moveTo(end);
            return number;
        }

        private boolean isWordAhead(String word) {
            if (endOfRun('a', 'z') - at != word.length()) {
                return false;
            }
            for (int i = 0; i < word.length() && at + i < length; i++) {
                if (bytes[at + i] != word.charAt(i)) {
                    return false;
                }
            }
            return true;
        }

        private int endOfRun(char first, char last) {
            int end = at;
            while (end < length && bytes[end] >= first && bytes[end] <= last) {
                end++;
            }
            return end;
        }

        private void moveTo(int place) {
            at = place;
            while (at < length && bytes[at] == ' ') {
                at++;
            }
        }
    }

    /** The entries and how they were put right. */
    private static final class Ledger {
        int entries;
        final int[] caravan;
        final int[] party;
        final int[] day;
        final int[] moneyAtFirst;
        final int[] moneyNow;
        int corrections;
        final int[] corrected;
        final int[] correctedOn;
        final long[] change;

        Ledger() {
            caravan = new int[MOST_ENTRIES];
            party = new int[MOST_ENTRIES];
            day = new int[MOST_ENTRIES];
            moneyAtFirst = new int[MOST_ENTRIES];
            moneyNow = new int[MOST_ENTRIES];
            corrected = new int[MOST_CORRECTIONS];
            correctedOn = new int[MOST_CORRECTIONS];
            change = new long[MOST_CORRECTIONS];
        }

        boolean has(int entry) {
            return entry >= 0 && entry < entries;
        }

        void writeShares(Caravan c, long money, int today) {
            Contract contract = c.counting;
            long rest = money;
            for (int i = 0; i < contract.shares; i++) {
                rest -= contract.partOf(money, i);
            }
            for (int i = 0; i < contract.shares; i++) {
                long part = contract.partOf(money, i) + (i == 0 ? rest : 0);
                writeEntry(c.number, contract.party[i], today, (int) part);
            }
        }

        void writeLoss(Caravan c, int slabs, int today) {
            if (c.counting.lostParty != NONE) {
                writeEntry(c.number, c.counting.lostParty, today, -slabs * c.counting.lostNumber);
            }
        }

        private void writeEntry(int ofCaravan, int ofParty, int today, int money) {
            if (money == 0 || entries >= MOST_ENTRIES) {
                return;
            }
            caravan[entries] = ofCaravan;
            party[entries] = ofParty;
            day[entries] = today;
            moneyAtFirst[entries] = money;
            moneyNow[entries] = money;
            entries++;
        }

        boolean putRight(int entry, int money, int today) {
            if (!has(entry) || corrections >= MOST_CORRECTIONS) {
                return false;
            }
            corrected[corrections] = entry;
            correctedOn[corrections] = today;
            change[corrections] = (long) money - moneyNow[entry];
            moneyNow[entry] = money;
            corrections++;
            return true;
        }

        // Corrections are told in the order of days, so the changes up to a day add up to the last one told by it.
        long sumOf(int ofCaravan, int ofParty, int upTo, int known) {
            long sum = 0;
            for (int i = 0; i < entries; i++) {
                if (counts(i, ofCaravan, ofParty, upTo) && day[i] <= known) {
                    sum += moneyAtFirst[i];
                }
            }
            for (int i = 0; i < corrections; i++) {
                if (counts(corrected[i], ofCaravan, ofParty, upTo) && correctedOn[i] <= known) {
                    sum += change[i];
                }
            }
            return sum;
        }

        private boolean counts(int entry, int ofCaravan, int ofParty, int upTo) {
            return has(entry) && caravan[entry] == ofCaravan && party[entry] == ofParty && day[entry] <= upTo;
        }
    }
}

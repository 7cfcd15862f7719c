import java.util.ArrayList;
import java.util.Comparator;
import java.util.List;
import java.util.NoSuchElementException;
import java.util.TreeMap;
import java.util.regex.Matcher;
import java.util.regex.Pattern;

/** The document told a second time, as plainly and slowly as can be: slab by slab, entry by entry. */
final class SlowModel {
    private record Token(int begin, String text) {
        boolean isNumber() {
            return text.matches("[0-9]{1,6}");
        }

        int number() {
            return Integer.parseInt(text);
        }
    }

    private record Order(String test, int market, int bound, String act, int number) {
    }

    private record Share(int party, int number) {
    }

    private record Deal(List<Share> shares, int lostParty, int lostNumber) {
    }

    private record Known(int price, int day) {
    }

    private record Told(int day, int money) {
    }

    private record Entry(int caravan, int party, int day, List<Told> told) {
        int money(int known) {
            int money = 0;
            for (Told t : told) {
                if (t.day <= known) {
                    money = t.money;
                }
            }
            return money;
        }
    }

    private record Stage(int from, int to, int days) {
    }

    private static final class Place {
        int sort;
        int flow;
        int room;
        int people;
        int has;
        int top;
        int fall;
        int sold;

        int price() {
            return sort == 3 ? Math.max(0, top - sold / fall) : 0;
        }
    }

    private static final class Train {
        int number;
        int people;
        int camels;
        int slabs;
        int water;
        int place;
        int at;
        int from;
        int toGo;
        int came;
        int turn;
        int waited;
        List<Order> orders = new ArrayList<>();
        Deal told;
        Deal counts;
        TreeMap<Integer, Known> knows = new TreeMap<>();
    }

    private static final class Wrong extends Exception {
        private static final long serialVersionUID = 1;
        final int at;

        Wrong(int at) {
            this.at = at;
        }
    }

    private static final List<String> PARTIES = List.of("owner", "driver", "tribe");

    private final StringBuilder tape = new StringBuilder();
    private final List<Place> places = new ArrayList<>();
    private final List<Stage> stages = new ArrayList<>();
    private final List<Train> trains = new ArrayList<>();
    private final List<Entry> entries = new ArrayList<>();
    private final int[][] lostThere = new int[12][12];
    private final long[] counts = new long[12];
    private int fault = -1;
    private int today = 0;

    private List<Token> tokens;
    private int next;
    private int length;

    int feed(int[] numbers) {
        if (tape.length() + 20 > 400) {
            return -1;
        }
        for (int n : numbers) {
            for (int i = 3; i >= 0; i--) {
                tape.append((char) (n >>> 8 * i & 255));
            }
        }
        return tape.length();
    }

    boolean end(int n) {
        if (n < 0 || tape.length() < n) {
            return false;
        }
        tape.setLength(n);
        return true;
    }

    private static void argument(boolean right) {
        if (!right) {
            throw new IllegalArgumentException();
        }
    }

    private static void index(int i, List<?> list) {
        if (i < 0 || i >= list.size()) {
            throw new IndexOutOfBoundsException();
        }
    }

    private static void room(List<?> list, int most) {
        if (list.size() == most) {
            throw new UnsupportedOperationException();
        }
    }

    int station(int sort, int a, int b, int c) {
        argument(sort >= 0 && sort <= 3);
        argument(sort != 2 || a >= 0 && a <= 1000 && b >= 1 && b <= 10000 && c >= -1 && c <= 3);
        argument(sort != 3 || a >= 1 && a <= 1000 && b >= 1 && b <= 100);
        room(places, 12);
        Place p = new Place();
        p.sort = sort;
        if (sort == 2) {
            p.flow = a;
            p.room = b;
            p.people = c;
            p.has = b;
        }
        if (sort == 3) {
            p.top = a;
            p.fall = b;
        }
        places.add(p);
        return places.size() - 1;
    }

    int stage(int from, int to, int days) {
        index(from, places);
        index(to, places);
        argument(from != to && days >= 1 && days <= 9);
        room(stages, 30);
        stages.add(new Stage(from, to, days));
        return stages.size();
    }

    int caravan(int people, int camels, int station) {
        index(station, places);
        argument(people >= 0 && people <= 3 && camels >= 1 && camels <= 500);
        room(trains, 12);
        Train t = new Train();
        t.number = trains.size();
        t.people = people;
        t.camels = camels;
        t.water = 10 * camels;
        t.at = station;
        t.came = today;
        trains.add(t);
        return t.number;
    }

    private void takeTape() {
        tokens = new ArrayList<>();
        Matcher m = Pattern.compile("[a-z]+|[0-9]+|[^ ]", Pattern.DOTALL).matcher(tape);
        while (m.find()) {
            tokens.add(new Token(m.start(), m.group()));
        }
        length = tape.length();
        tokens.add(new Token(length, ""));
        next = 0;
        tape.setLength(0);
    }

    private Token peek() {
        return tokens.get(next);
    }

    private void need(boolean right) throws Wrong {
        if (!right) {
            throw new Wrong(peek().begin);
        }
    }

    private String take() {
        next++;
        return tokens.get(next - 1).text;
    }

    private int takeNumber(int most) throws Wrong {
        need(peek().isNumber() && peek().number() <= most);
        return Integer.parseInt(take());
    }

    private int takeParty() throws Wrong {
        need(PARTIES.contains(peek().text));
        return PARTIES.indexOf(take());
    }

    private Order readOrder() throws Wrong {
        String test = "";
        int market = 0;
        int bound = 0;
        if (peek().text.equals("if")) {
            take();
            market = takeNumber(999999);
            need(peek().text.equals("<") || peek().text.equals(">"));
            test = take();
            bound = takeNumber(999999);
        }
        need(List.of("go", "load", "sell", "wait", "again").contains(peek().text));
        String act = take();
        return new Order(test, market, bound, act, act.equals("again") ? 0 : takeNumber(999999));
    }

    private List<Order> readOrders() throws Wrong {
        List<Order> list = new ArrayList<>();
        list.add(readOrder());
        while (peek().text.equals(";")) {
            take();
            need(list.size() < 12);
            list.add(readOrder());
        }
        need(peek().begin == length);
        return list;
    }

    private Deal readDeal() throws Wrong {
        List<Share> shares = new ArrayList<>();
        int sum = 0;
        boolean more = true;
        while (more) {
            for (Share s : shares) {
                need(!PARTIES.get(s.party).equals(peek().text));
            }
            int party = takeParty();
            int number = takeNumber(99);
            shares.add(new Share(party, number));
            sum += number;
            more = peek().text.equals(",");
            if (more) {
                take();
            }
        }
        need(sum > 0);
        int lostParty = -1;
        int lostNumber = 0;
        if (peek().text.equals("lost")) {
            take();
            lostParty = takeParty();
            lostNumber = takeNumber(999999);
        }
        need(peek().begin == length);
        return new Deal(shares, lostParty, lostNumber);
    }

    int orders(int caravan) {
        takeTape();
        index(caravan, trains);
        try {
            Train t = trains.get(caravan);
            t.orders = readOrders();
            t.turn = 0;
            t.waited = 0;
            fault = -1;
            return t.orders.size();
        } catch (Wrong w) {
            fault = w.at;
            throw new IllegalArgumentException();
        }
    }

    int contract(int caravan) {
        takeTape();
        index(caravan, trains);
        try {
            trains.get(caravan).told = readDeal();
            fault = -1;
            return trains.get(caravan).told.shares.size();
        } catch (Wrong w) {
            fault = w.at;
            throw new IllegalArgumentException();
        }
    }

    int fault() {
        return fault;
    }

    int days(int n) {
        argument(n >= 0 && n <= 200);
        for (int i = 0; i < n; i++) {
            day();
        }
        return today;
    }

    private void day() {
        today++;
        for (Place p : places) {
            if (p.sort == 2) {
                p.has = Math.min(p.room, p.has + p.flow);
            }
            if (p.sort == 3) {
                p.sold = Math.max(0, p.sold - p.fall);
            }
        }
        for (Train t : trains) {
            if (t.place == 1) {
                onTheWay(t);
            }
        }
        letters();
        for (int p = 0; p < places.size(); p++) {
            water(places.get(p), thoseAt(p));
        }
        for (Train t : trains) {
            if (t.place == 0) {
                order(t);
            }
        }
    }

    private List<Train> thoseAt(int place) {
        List<Train> there = new ArrayList<>();
        for (Train t : trains) {
            if (t.place == 0 && t.at == place) {
                there.add(t);
            }
        }
        return there;
    }

    private void onTheWay(Train t) {
        int needed = t.camels;
        int lacking = 0;
        if (needed > t.water) {
            lacking = needed - t.water;
            t.water = 0;
        } else {
            t.water -= needed;
        }
        int die = lacking / 2 + lacking % 2;
        t.camels -= die;
        counts[8] += die;
        int lost = 0;
        while (t.slabs > 4 * t.camels) {
            t.slabs--;
            lost++;
        }
        counts[6] += lost;
        lostThere[t.from][t.at] += lost;
        if (t.counts != null && t.counts.lostParty >= 0 && lost * t.counts.lostNumber > 0) {
            write(t, t.counts.lostParty, -lost * t.counts.lostNumber);
        }
        if (t.camels == 0) {
            t.place = 2;
            t.toGo = 0;
            return;
        }
        t.toGo--;
        if (t.toGo == 0) {
            t.place = 0;
            t.came = today;
        }
    }

    private void write(Train t, int party, int money) {
        if (entries.size() < 300) {
            List<Told> told = new ArrayList<>();
            told.add(new Told(today, money));
            entries.add(new Entry(t.number, party, today, told));
        }
    }

    private void letters() {
        for (int p = 0; p < places.size(); p++) {
            if (places.get(p).sort == 3) {
                for (Train t : thoseAt(p)) {
                    t.knows.put(p, new Known(places.get(p).price(), today));
                }
            }
        }
        for (int p = 0; p < places.size(); p++) {
            TreeMap<Integer, Known> latest = new TreeMap<>();
            for (Train t : thoseAt(p)) {
                t.knows.forEach((m, k) -> latest.merge(m, k, (a, b) -> a.day >= b.day ? a : b));
            }
            for (Train t : thoseAt(p)) {
                t.knows = new TreeMap<>(latest);
            }
        }
    }

    private void water(Place p, List<Train> there) {
        there.sort(Comparator.comparing((Train t) -> p.sort == 2 && t.people != p.people)
                .thenComparing(t -> t.came).thenComparing(t -> t.number));
        for (Train t : there) {
            while (t.water < 10 * t.camels && (p.sort != 2 || p.has > 0)) {
                t.water++;
                p.has -= p.sort == 2 ? 1 : 0;
            }
        }
    }

    private void order(Train t) {
        if (t.turn == t.orders.size()) {
            return;
        }
        Order o = t.orders.get(t.turn);
        if (t.waited == 0 && !o.test.isEmpty() && !holds(t, o)) {
            t.turn++;
            return;
        }
        if (o.act.equals("wait")) {
            t.waited++;
            if (t.waited >= o.number) {
                t.waited = 0;
                t.turn++;
            }
            return;
        }
        t.turn = o.act.equals("again") ? 0 : t.turn + 1;
        if (o.act.equals("go")) {
            go(t, o.number);
        }
        if (o.act.equals("load") && places.get(t.at).sort == 1) {
            for (int i = 0; i < o.number && t.slabs < 4 * t.camels; i++) {
                t.slabs++;
                counts[4]++;
            }
        }
        if (o.act.equals("sell") && places.get(t.at).sort == 3) {
            sell(t, places.get(t.at), o.number);
        }
    }

    private boolean holds(Train t, Order o) {
        Known k = t.knows.get(o.market);
        return k != null && (o.test.equals("<") ? k.price < o.bound : k.price > o.bound);
    }

    private void go(Train t, int to) {
        for (Stage s : stages) {
            if (s.from == t.at && s.to == to || s.to == t.at && s.from == to) {
                t.place = 1;
                t.from = t.at;
                t.at = to;
                t.toGo = s.days;
                t.counts = t.told;
                return;
            }
        }
    }

    private void sell(Train t, Place p, int number) {
        int money = 0;
        for (int i = 0; i < number && t.slabs > 0; i++) {
            money += p.price();
            p.sold++;
            t.slabs--;
            counts[5]++;
        }
        counts[10] += money;
        List<Share> shares = t.counts == null ? List.of(new Share(0, 1)) : t.counts.shares;
        int sum = 0;
        for (Share s : shares) {
            sum += s.number;
        }
        int rest = money;
        for (Share s : shares) {
            rest -= money * s.number / sum;
        }
        for (Share s : shares) {
            int part = money * s.number / sum + rest;
            rest = 0;
            if (part != 0) {
                write(t, s.party, part);
            }
        }
    }

    private static void element(int what, int size) {
        if (what < 0 || what >= size) {
            throw new NoSuchElementException();
        }
    }

    int look(int station, int what) {
        index(station, places);
        element(what, 4);
        Place p = places.get(station);
        int[] all = {p.sort, p.sort == 2 ? p.has : p.price(), p.sold, thoseAt(station).size()};
        return all[what];
    }

    int state(int caravan, int what) {
        index(caravan, trains);
        element(what, 8);
        Train t = trains.get(caravan);
        int[] all = {t.place, t.at, t.camels, t.slabs, t.water, t.toGo, t.came, t.turn};
        return all[what];
    }

    int knows(int caravan, int station, boolean day) {
        index(caravan, trains);
        index(station, places);
        Known k = trains.get(caravan).knows.get(station);
        return k == null ? -1 : day ? k.day : k.price;
    }

    int lost(int from, int to) {
        index(from, places);
        index(to, places);
        return lostThere[from][to];
    }

    int entry(int entry, int what) {
        index(entry, entries);
        element(what, 5);
        Entry e = entries.get(entry);
        int[] all = {e.caravan, e.party, e.day, e.money(today), e.told.get(0).money};
        return all[what];
    }

    boolean correct(int entry, int money) {
        index(entry, entries);
        argument(money >= -1000000 && money <= 1000000);
        if (counts[11] == 100) {
            return false;
        }
        counts[11]++;
        entries.get(entry).told.add(new Told(today, money));
        return true;
    }

    long balance(int caravan, int party, int day, int known) {
        index(caravan, trains);
        argument(party >= 0 && party <= 2);
        long sum = 0;
        for (Entry e : entries) {
            if (e.caravan == caravan && e.party == party && e.day <= day && e.day <= known) {
                sum += e.money(known);
            }
        }
        return sum;
    }

    int split(int slabs) {
        argument(slabs >= 0 && slabs <= 5000);
        int[] more = new int[places.size()];
        int money = 0;
        for (int i = 0; i < slabs; i++) {
            int best = 0;
            int where = -1;
            for (int p = 0; p < more.length; p++) {
                Place m = places.get(p);
                if (m.sort == 3 && m.top - (m.sold + more[p]) / m.fall > best) {
                    best = m.top - (m.sold + more[p]) / m.fall;
                    where = p;
                }
            }
            if (where < 0) {
                return money;
            }
            more[where]++;
            money += best;
        }
        return money;
    }

    long count(int what) {
        long carried = 0;
        for (Train t : trains) {
            carried += t.slabs;
        }
        switch (what) {
            case 0: return today;
            case 1: return places.size();
            case 2: return stages.size();
            case 3: return trains.size();
            case 7: return carried;
            case 9: return entries.size();
            default: return what < 0 || what > 11 ? -1 : counts[what];
        }
    }
}

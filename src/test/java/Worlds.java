/** Small worlds that several tests begin with. */
final class Worlds {
    private Worlds() {
    }

    static SaltCaravans towns(int n) {
        SaltCaravans x = new SaltCaravans();
        for (int i = 0; i < n; i++) {
            x.station(Checks.TOWN, 0, 0, 0);
        }
        return x;
    }

    /** Lake 0 and market 1, a day apart, with a caravan at the lake. */
    static SaltCaravans lakeAndMarket(int top, int fall, int camels) {
        SaltCaravans x = new SaltCaravans();
        x.station(Checks.LAKE, 0, 0, 0);
        x.station(Checks.MARKET, top, fall, 0);
        x.stage(0, 1, 1);
        x.caravan(0, camels, 0);
        return x;
    }

    /** As many slabs as sold were sold at market 1 on day 3, today, if this is no more than the caravan can carry. */
    static SaltCaravans soldToday(int top, int fall, int sold) {
        SaltCaravans x = lakeAndMarket(top, fall, 500);
        Checks.giveOrders(x, 0, "load " + sold + ";go 1;sell " + sold);
        x.days(3);
        return x;
    }

    /**
     * Lake 0, well 1 that never fills again, town 2, nine days each, with a caravan at the lake. By the orders
     * "load N;go 1;go 2" it comes to the well on day 11 with a WATER for each CAMEL, sets out with as much as the
     * well has besides, has just that on day 12, and on day 13 lacks what this is less than its CAMELS.
     */
    static SaltCaravans dryWay(int camels, int room, String contract, String orders) {
        SaltCaravans x = new SaltCaravans();
        x.station(Checks.LAKE, 0, 0, 0);
        x.station(Checks.WELL, 0, room, SaltCaravans.NONE);
        x.station(Checks.TOWN, 0, 0, 0);
        x.stage(0, 1, 9);
        x.stage(1, 2, 9);
        x.caravan(1, camels, 0);
        if (!contract.isEmpty()) {
            Checks.giveContract(x, 0, contract);
        }
        Checks.giveOrders(x, 0, orders);
        return x;
    }
}

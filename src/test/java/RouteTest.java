/** Promises 23 to 26: route, routeAt, bids, bid. */
public final class RouteTest {
    public static void main(String[] args) {
        routes();
        likeRoutes();
        theLongestRoute();
        bidsTillRest();
        sixtyRounds();
        bidsByTheRouteAsItIsThen();
        withoutTheEvicted();
        Check.finish();
    }

    private static void routeIs(Check x, int bribes, int q, int n, int... squares) {
        x.due(bribes, "route", q, n).row("routeAt", squares).due(Check.NONE, "routeAt", squares.length).due(Check.NONE, "routeAt", -1);
    }

    private static void routes() {
        // a star: a in the midst, b and c and d around, e behind d
        Check x = Check.of("square a 1;square b 1;square c 1;square d 1;square e 1;path a b;path a c;path a d;path d e;kind k;"
                + "statue s k b 9 5;statue t k c 9 7;statue u k e 9 3;statue v k a 9 1;");
        x.due(Check.NONE, "routeAt", 0);
        routeIs(x, 1, 0, 1, 0);
        routeIs(x, 8, 0, 2, 0, 2);
        routeIs(x, 8, 0, 8, 0, 2);
        routeIs(x, 13, 1, 3, 1, 0, 2);
        routeIs(x, 13, 1, 8, 1, 0, 2);
        routeIs(x, 11, 4, 8, 4, 3, 0, 2);
        routeIs(x, 4, 4, 3, 4, 3, 0);
        // the most of all, where no path goes
        Check y = Check.of("square a 1;square b 1;square c 1;path a b;kind k;statue s k c 9 99;statue t k b 9 1;");
        routeIs(y, 1, 0, 8, 0, 1);
        routeIs(y, 99, 2, 8, 2);
        // what is not so leaves what was told
        x.due(Check.NONE, "route", 0, 0).due(Check.NONE, "route", 0, 9).due(Check.NONE, "route", 5, 1).due(Check.NONE, "route", -1, 1);
        x.due(Check.NONE, "route", 0, -1).due(Check.NONE, "route", Integer.MAX_VALUE, 3).row("routeAt", 4, 3, 0, Check.NONE);
        // and so do bids and moves
        x.due(0, "move", 0, 3).due(Check.NONE, "bids", 0, 9).row("routeAt", 4, 3, 0, Check.NONE);
        x.due(13, "bids", 0, 1).row("routeAt", 4, 3, 0, Check.NONE);
        routeIs(x, 9, 0, 3, 0, 3, 4);
    }

    private static void likeRoutes() {
        // nothing to get: the fewest squares
        routeIs(Check.of("square a 1;square b 1;path a b;kind k;statue s k b 0 0;"), 0, 0, 8, 0);
        // as much by b and d as by c and d: the least at the first place
        Check x = Check.of("square a 1;square b 1;square c 1;square d 1;path a b;path a c;path b d;path c d;kind k;statue s k d 0 4;");
        routeIs(x, 4, 0, 8, 0, 1, 3);
        // as much far by b and c as near at d: the fewest
        Check y = Check.of("square a 1;square b 1;square c 1;square d 1;path a b;path b c;path a d;kind k;statue s k c 0 4;statue t k d 0 4;");
        routeIs(y, 4, 0, 3, 0, 3);
        // the same start further on
        Check z = Check.of("square a 1;square b 1;square c 1;square d 1;square e 1;path a e;path e c;path e b;path e d;path a d;kind k;"
                + "statue s k d 0 2;statue t k c 0 3;statue u k b 0 3;");
        routeIs(z, 5, 0, 8, 0, 3, 4, 1);
    }

    private static void theLongestRoute() {
        StringBuilder town = new StringBuilder("kind k;");
        for (int q = 0; q < 8; q++) {
            town.append("square q" + (char) ('a' + q) + " 1;");
        }
        for (int q = 0; q < 8; q++) {
            town.append("statue s" + (char) ('a' + q) + " k q" + (char) ('a' + q) + " 0 99;");
        }
        for (int q = 0; q < 8; q++) {
            town.append("path q" + (char) ('a' + q) + " q" + (char) ('a' + (q + 3) % 8) + ";");
        }
        Check x = Check.of(town.toString());
        routeIs(x, 792, 0, 8, 0, 3, 6, 1, 4, 7, 2, 5);
        routeIs(x, 693, 0, 7, 0, 3, 6, 1, 4, 7, 2);
    }

    private static void bidsTillRest() {
        Check x = Check.of("square a 1;square b 1;path a b;kind k;statue s k a 20 5;statue t k b 3 9;");
        x.due(Check.NONE, "bid", 0).due(Check.NONE, "bids", 2, 1).due(Check.NONE, "bids", -1, 1).due(Check.NONE, "bids", 0, 0);
        x.due(Check.NONE, "bids", 0, 9).due(Check.NONE, "bid", 0);
        // s stands on the route, t has no more than its bribe
        x.due(1, "bids", 0, 1).row("bid", 5, 9, Check.NONE).due(Check.NONE, "bid", -1);
        // s bids up to its purse for a route that never passes it
        x.due(16, "bids", 1, 1).row("bid", 20, 9, Check.NONE);
        x.due(1, "bids", 1, 2).row("bid", 5, 9, Check.NONE).due(1, "bids", 1, 8);
        // the statues' own bribes stay as told; what is not so leaves what was told
        x.due(16, "bids", 1, 1).due(5, "statue", 0, 4).due(Check.NONE, "bids", 1, 9).row("bid", 20, 9, Check.NONE);
        x.due(9, "route", 1, 1).due(14, "route", 1, 2);
    }

    private static void sixtyRounds() {
        Check x = Check.of("square a 1;square b 1;kind k;statue s k b 999 99;").due(60, "bids", 0, 1).due(159, "bid", 0);
        // rest that is seen in the sixtieth round, and rest that would be seen in the next one
        Check.of("square a 1;square b 1;kind k;statue s k b 59 0;").due(60, "bids", 0, 1).due(59, "bid", 0);
        Check.of("square a 1;square b 1;kind k;statue s k b 60 0;").due(60, "bids", 0, 1).due(60, "bid", 0);
        Check.of("square a 1;square b 1;kind k;statue s k b 58 0;").due(59, "bids", 0, 1).due(58, "bid", 0);
        x.due(99, "statue", 0, 4).due(Check.NONE, "bid", 1);
    }

    private static void bidsByTheRouteAsItIsThen() {
        // b and c hang on a: only one of both is on a route of two squares
        Check x = Check.of("square a 1;square b 1;square c 1;path a b;path a c;kind k;statue s k b 6 0;statue t k c 4 3;");
        // s bids 1, 2, 3 (as much as t: the least square is its), then t 4, s 4, t has no more
        x.due(6, "bids", 0, 2).row("bid", 4, 4, Check.NONE);
        Check y = Check.of("square a 1;square b 1;square c 1;path a b;path a c;kind k;statue s k c 6 0;statue t k b 4 3;");
        // s must bid more than t
        y.due(7, "bids", 0, 2).row("bid", 5, 4, Check.NONE);
    }

    private static void withoutTheEvicted() {
        Check x = Check.of("square a 0;square b 9;path a b;kind k;statue s k b 0 50;statue t k a 0 2;arrears 1;");
        x.due(52, "route", 0, 2).due(3, "days", 3, 1).due(1, "now", 1);
        routeIs(x, 2, 0, 2, 0);
        routeIs(x, 2, 1, 2, 1, 0);
        x.due(1, "bids", 1, 1).row("bid", 50, 2, Check.NONE);
    }
}

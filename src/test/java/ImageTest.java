/** Promises 45 and 46: image, restore; and what other calls told last, which they leave. */
public final class ImageTest {
    private static final String TOWN = "square a 1;square b 9;path a b;kind k;kind l;statue s k a 50 3;statue t l b 9 4;"
            + "walker w a b 1 5;likes w k 12;arrears 2;";

    public static void main(String[] args) {
        wrongPlaces();
        keepsAllThatIsSo();
        keepsTheCity();
        leavesWhatWasTold();
        aNewCityLeavesWhatWasTold();
        Check.finish();
    }

    private static void wrongPlaces() {
        Check x = new Check().due(0, "image", 2).due(0, "image", -1).due(0, "restore", 0).due(0, "restore", 1);
        x.due(0, "restore", 2).due(0, "restore", -1).due(1, "image", 0).due(1, "restore", 0).due(0, "restore", 1);
        x.due(1, "image", 1).due(1, "restore", 1).due(0, "image", Integer.MIN_VALUE).due(0, "restore", Integer.MAX_VALUE);
    }

    private static int[] all(StatueRent x) {
        int[] all = new int[7 + 16 + 7 + 6 + 7];
        int i = 0;
        for (int what = 0; what < 7; what++) {
            all[i++] = x.now(what);
            all[i++] = x.walker(0, what);
        }
        for (int what = 0; what < 8; what++) {
            all[i++] = x.statue(0, what);
            all[i++] = x.statue(1, what);
        }
        for (int what = 0; what < 3; what++) {
            all[i++] = x.likes(0, 0, what);
            all[i++] = x.likes(0, 1, what);
        }
        for (int what = 0; what < 6; what++) {
            all[i++] = x.count(what);
        }
        return all;
    }

    private static void same(int[] want, int[] got) {
        if (!java.util.Arrays.equals(want, got)) {
            Check.fail(java.util.Arrays.toString(got) + ", due is " + java.util.Arrays.toString(want));
        }
    }

    private static void keepsAllThatIsSo() {
        Check x = Check.of(TOWN).due(7, "days", 7, 3).due(0, "show", 0, 1).tape("of l").due(1, "sentence");
        int[] first = all(x.subject);
        x.due(1, "image", 0).due(2, "days", 2, 5);
        x.tape("of k").due(1, "sentence");
        int[] second = all(x.subject);
        x.due(1, "image", 1).due(9, "days", 9, 8);
        x.due(1, "restore", 0).due(Check.NONE, "undo").due(2, "said", Check.NONE);
        same(first, all(x.subject));
        x.due(1, "restore", 1).due(0, "said", Check.NONE);
        same(second, all(x.subject));
        // an image stays as it was, whatever is done behind it
        x.due(3, "days", 3, 1).due(0, "undo").due(1, "restore", 0).due(4, "days", 4, 1).due(1, "restore", 0);
        same(first, all(x.subject));
        // a place may be used again, and keeping undoes nothing
        x.due(1, "days", 1, 1).due(1, "image", 0).due(0, "undo");
        same(first, all(x.subject));
        x.due(1, "restore", 0).due(8, "now", 0).due(Check.NONE, "undo");
    }

    private static void keepsTheCity() {
        Check x = new Check().due(1, "image", 0).tape(TOWN).due(10, "city").due(1, "image", 1);
        x.tape("square z 7;square y 8;square x 0;kind a;statue c a x 1 2;walker d z y 7 9;").due(6, "city").row("count", 3, 0, 1, 1, 1, 3);
        x.due(1, "restore", 1).row("count", 2, 1, 2, 2, 1, 2).row("square", new int[] {1}, 9, 1, 1, 1).row("way", new int[] {0}, 0, 1, Check.NONE);
        x.due(9, "plaque", 0).row("walker", new int[] {0}, 0, 1, 1, 5, 2, 0, 0).due(3, "statue", 0, 4).due(4, "statue", 1, 4);
        // its names are known again
        x.tape("s moves b;").due(0, "log", 0).due(3, "logged", 0).tape("c cleans;").due(-2, "log", 0).due(3, "fault");
        x.due(1, "restore", 0).row("count", 0, 0, 0, 0, 0, 3).missing("statue", 0, 0).due(Check.NONE, "said", Check.NONE);
    }

    /** An image is kept, then all is told that can be, and some is so that was not. */
    private static Check told() {
        Check x = Check.of(TOWN).due(1, "image", 0);
        x.due(7, "route", 0, 2).due(1, "bids", 0, 2).due(0, "cure", 0).due(9, "plaque", 1).due(0, "plot", 1);
        x.tape(Check.bytes(0, 1)).due(2, "taste", 0).tape(Check.bytes(1, 1)).due(1, "grass");
        return x.tape("day 2;").due(Check.NONE, "log", 1).tape("of").due(-3, "sentence").due(2, "now", 0);
    }

    private static void stillTold(Check x) {
        x.row("routeAt", 0, 1, Check.NONE).row("bid", 3, 4, Check.NONE).row("cured", 0, 0, 0, Check.NONE);
        x.row("byteAt", 't', ' ', 'i', 's', ' ', 'a', 't', ' ', 'b', Check.NONE).due(0, "plotters");
        x.due(1, "surely").due(1, "tells").due(1, "trodden").row("logged", 0, 1, 2, 0, Check.NONE);
    }

    private static void leavesWhatWasTold() {
        Check x = told().tape("abc").due(1, "restore", 0).due(1, "fault").due(3, "count", 6).due(0, "now", 0);
        stillTold(x);
    }

    /** A new CITY, a smaller one, leaves it, too: it is told by the CITY of those calls. */
    private static void aNewCityLeavesWhatWasTold() {
        Check x = told().tape("square z 5;").due(1, "city").due(0, "fault").due(0, "now", 0);
        stillTold(x);
        x.tape("").due(0, "city");
        stillTold(x);
        // what is NONE in the new CITY is not the latest
        x.due(Check.NONE, "route", 0, 1).due(Check.NONE, "bids", 0, 1).due(Check.NONE, "cure", 0).due(Check.NONE, "plot", 0);
        x.due(Check.NONE, "plaque", 0).tape(Check.bytes(0, 1)).due(Check.NONE, "taste", 0).tape("").due(Check.NONE, "grass");
        stillTold(x);
    }
}

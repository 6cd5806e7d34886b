/** Promises 29 to 31, 36 and 37: taste, surely, tells, grass, trodden. */
public final class GuessTest {
    // five kinds; s and t of k, u of l, v of m; no statue is of n or o
    private static final String TOWN = "square a 9;square b 9;square c 9;square d 0;kind k;kind l;kind m;kind n;kind o;"
            + "statue s k a 0 0;statue t k b 0 0;statue u l c 99 0;statue v m d 0 0;walker w a a 1 1;walker x b b 1 1;arrears 1;";

    public static void main(String[] args) {
        tastes();
        tellsTheMostEvenOne();
        wrongPairs();
        tellsNoneOfTheEvicted();
        treadsOverTheGrass();
        wrongGrass();
        Check.finish();
    }

    private static void tastes() {
        Check x = Check.of(TOWN).due(Check.NONE, "surely").due(Check.NONE, "tells");
        // he looked at s, of k: sixteen sets of the other four
        x.tape(Check.bytes(0, 1)).due(16, "taste", 0).due(1, "surely").due(2, "tells").due(0, "count", 6);
        x.tape(Check.bytes(0, 1, 2, 0)).due(8, "taste", 1).due(1, "surely").due(3, "tells");
        x.tape(Check.bytes(3, 1, 1, 0, 3, 1)).due(8, "taste", 0).due(4, "surely").due(2, "tells");
        // not all can have come so: what was told before stays
        x.tape(Check.bytes(0, 1, 1, 0)).due(0, "taste", 0).due(4, "surely").due(2, "tells").due(0, "count", 6);
        x.tape(Check.bytes(0, 0, 2, 0, 3, 0)).due(4, "taste", 0).due(0, "surely").due(0, "tells");
        // its kind of now counts, by what it shows
        x.due(0, "show", 2, 4).tape(Check.bytes(2, 1)).due(16, "taste", 0).due(16, "surely").due(0, "tells");
        // as it was then
        x.due(0, "show", 2, 1).due(16, "surely").due(0, "tells");
        // all five are known: one set, of all of them or of none
        Check z = Check.of("square a 1;square b 1;square c 1;square d 1;square e 1;kind k;kind l;kind m;kind n;kind o;"
                + "statue s k a 1 1;statue t l b 1 1;statue u m c 1 1;statue v n d 1 1;statue x o e 1 1;walker w a a 1 1;");
        z.tape(Check.bytes(0, 1, 1, 1, 2, 1, 3, 1, 4, 1)).due(1, "taste", 0).due(31, "surely").due(0, "tells");
        z.tape(Check.bytes(0, 0, 1, 0, 2, 0, 3, 0, 4, 0)).due(1, "taste", 0).due(0, "surely").due(0, "tells");
        z.tape(Check.bytes(4, 1)).due(16, "taste", 0).due(16, "surely").due(0, "tells");
        // one set alone parts nothing: the first statue
        Check y = Check.of("square a 1;square b 1;kind k;kind l;statue s l a 1 1;statue t k b 1 1;walker w a a 1 1;");
        y.tape(Check.bytes(0, 1, 1, 0)).due(1, "taste", 0).due(2, "surely").due(0, "tells");
    }

    private static void tellsTheMostEvenOne() {
        Check x = Check.of("square a 1;square b 1;square c 1;kind k;kind l;statue s k a 1 1;statue t k b 1 1;statue u l c 1 1;walker w a a 1 1;");
        x.tape(Check.bytes(1, 0)).due(2, "taste", 0).due(0, "surely").due(2, "tells");
        x.tape(Check.bytes(2, 1)).due(2, "taste", 0).due(2, "surely").due(0, "tells");
    }

    private static void wrongPairs() {
        Check x = Check.of(TOWN).tape("").due(Check.NONE, "taste", 0);
        x.tape(Check.bytes(0)).due(Check.NONE, "taste", 0).due(0, "count", 6);
        x.tape(Check.bytes(0, 1, 0)).due(Check.NONE, "taste", 0);
        x.tape(Check.bytes(4, 1)).due(Check.NONE, "taste", 0).tape(Check.bytes(255, 1)).due(Check.NONE, "taste", 0);
        x.tape(Check.bytes(0, 2)).due(Check.NONE, "taste", 0).tape(Check.bytes(0, 255)).due(Check.NONE, "taste", 0);
        x.tape(Check.bytes(0, 1)).due(Check.NONE, "taste", 2).due(0, "count", 6);
        x.tape(Check.bytes(0, 1)).due(Check.NONE, "taste", -1);
        x.due(Check.NONE, "surely").due(Check.NONE, "tells");
        x.tape(Check.times(20, Check.bytes(0, 1))).due(16, "taste", 0);
        x.tape(Check.times(21, Check.bytes(0, 1))).due(Check.NONE, "taste", 0).due(1, "surely");
    }

    private static void tellsNoneOfTheEvicted() {
        Check x = Check.of(TOWN).due(3, "days", 3, 1).due(3, "now", 1);
        // s and t are evicted: they may stand on the tape, but do not tell
        x.tape(Check.bytes(2, 1)).due(16, "taste", 0).due(2, "surely").due(3, "tells");
        x.tape(Check.bytes(0, 1, 2, 1, 3, 1)).due(4, "taste", 0).due(7, "surely").due(2, "tells");
        Check y = Check.of("square a 9;kind k;statue s k a 0 0;walker w a a 1 0;arrears 1;").due(3, "days", 3, 1);
        y.tape(Check.bytes(0, 1)).due(1, "taste", 0).due(1, "surely").due(Check.NONE, "tells");
    }

    private static void treadsOverTheGrass() {
        // u: a b, v: b c, w: a b c, x: c, y: nowhere
        Check x = Check.of("square a 1;square b 1;square c 1;square d 1;path a b;path b c;"
                + "walker u a b 1 1;walker v b c 1 1;walker w a c 1 1;walker x c c 1 1;walker y a d 1 1;");
        x.due(Check.NONE, "trodden");
        // w alone, or u and x
        x.tape(Check.bytes(1, 1, 1, 0)).due(4, "grass").due(0, "trodden").due(0, "count", 6);
        x.tape(Check.bytes(1, 2, 1, 0)).due(2, "grass").due(3, "trodden");
        x.tape(Check.bytes(2, 3, 2, 0)).due(2, "grass").due(7, "trodden");
        x.tape(Check.bytes(2, 2, 1, 0)).due(2, "grass").due(5, "trodden");
        // what cannot be: what was told before stays
        x.tape(Check.bytes(0, 0, 0, 1)).due(0, "grass").due(5, "trodden");
        x.tape(Check.bytes(0, 0, 255, 0)).due(0, "grass").due(5, "trodden");
        x.tape(Check.bytes(0, 0, 0, 0)).due(2, "grass").due(0, "trodden");
        StringBuilder eight = new StringBuilder("square a 1;");
        for (int w = 0; w < 8; w++) {
            eight.append("walker w" + (char) ('a' + w) + " a a 1 2;");
        }
        Check y = Check.of(eight.toString()).tape(Check.bytes(8)).due(1, "grass").due(255, "trodden");
        y.tape(Check.bytes(4)).due(70, "grass").due(0, "trodden");
        Check.of("square a 1;").tape(Check.bytes(0)).due(1, "grass").due(0, "trodden");
    }

    private static void wrongGrass() {
        Check x = Check.of("square a 1;square b 1;walker w a a 1 1;");
        x.tape(Check.bytes(1)).due(Check.NONE, "grass").due(0, "count", 6).tape(Check.bytes(1, 0, 0)).due(Check.NONE, "grass");
        x.tape("").due(Check.NONE, "grass").due(Check.NONE, "trodden");
        Check.of("kind k;").due(Check.NONE, "grass");
    }
}

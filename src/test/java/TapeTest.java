/** Promises 1 to 3 and 47: a new object, feed, end, count. */
public final class TapeTest {
    public static void main(String[] args) {
        newObject();
        feedTillFull();
        bytesComeHighestFirst();
        endCutsTheTape();
        countsOfACity();
        Check.finish();
    }

    private static void newObject() {
        Check x = new Check();
        x.row("count", 0, 0, 0, 0, 0, 3, 0, Check.NONE).due(Check.NONE, "count", -1);
        x.row("now", 0, 0, 0, 0, 0, 0, 0, Check.NONE);
        x.due(0, "fault").due(Check.NONE, "square", 0, 0).missing("statue", 0, 0).missing("walker", 0, 0);
        x.due(Check.NONE, "undo").due(Check.NONE, "said", Check.NONE).due(0, "solvent").due(0, "placing", 0).due(1, "placing", 1);
        x.due(0, "restore", 0).due(0, "restore", 1);
    }

    private static void feedTillFull() {
        Check x = new Check();
        for (int i = 1; i <= 47; i++) {
            x.due(20 * i, "feed", 1, 2, 3, 4, 5);
        }
        x.due(Check.NONE, "feed", 1, 2, 3, 4, 5).due(940, "count", 6);
        x.due(1, "end", 921).due(Check.NONE, "feed", 1, 2, 3, 4, 5).due(921, "count", 6);
        x.due(1, "end", 920).due(940, "feed", 1, 2, 3, 4, 5);
    }

    private static void bytesComeHighestFirst() {
        Check x = new Check();
        // "squa" "re a" " 7;s" "quar" "e b "
        x.due(20, "feed", 0x73717561, 0x72652061, 0x20373b73, 0x71756172, 0x65206220);
        // "95; " and no blanks behind
        x.due(40, "feed", 0x39353b20, 0x80ffffff, -1, -2, -3).due(1, "end", 24);
        x.due(2, "city").due(7, "square", 0, 0).due(95, "square", 1, 0);
        // they come behind what is there: "kin", then "d k;" with ".." behind it, which is cut
        Check y = new Check().tape("kin").due(23, "feed", 0x64206b3b, 0x2e2e2e2e, -1, 0, 0).due(1, "end", 7).due(1, "city").due(1, "count", 2);
        // nothing behind the end is read: neither a TOKEN, nor what one would go on with, nor a byte for a SQUARE
        y.tape("kind ab;").due(1, "end", 7).due(-8, "city").due(1, "fault").tape("kind k;kind abc;").due(1, "end", 14).due(-15, "city");
        y.tape("arrears 50;").due(1, "end", 9).due(-10, "city").due(1, "fault").tape("not evicted").due(1, "end", 3).due(-4, "sentence");
        Check z = Check.of("square a 1;square b 1;kind k;statue s k a 1 1;walker w a a 1 1;");
        z.due(20, "feed", 0x01000101, -1, -1, -1, -1).due(1, "end", 2).due(1, "grass").due(1, "trodden");
        z.due(20, "feed", 0x00010001, 0x09090909, -1, -1, -1).due(1, "end", 4).due(1, "taste", 0).due(1, "surely");
        // what was cut does not come again
        y.tape("kind a;.").due(1, "end", 5).due(25, "feed", 0x7a7a3b20, 0x20202020, 0x20202020, 0x20202020, 0x20202020).due(1, "city");
        // as pairs a byte is 0 to 255, never below 0
        Check.of("square a 1;kind k;statue s k a 1 1;walker w a a 1 1;").tape(Check.bytes(0, 255)).due(Check.NONE, "taste", 0);
    }

    private static void endCutsTheTape() {
        Check x = new Check();
        x.due(1, "end", 0).due(0, "end", 1).due(0, "end", -1).due(0, "end", Integer.MIN_VALUE).due(0, "end", Integer.MAX_VALUE);
        x.due(20, "feed", 0, 0, 0, 0, 0).due(0, "end", 21).due(20, "count", 6).due(1, "end", 20).due(20, "count", 6);
        x.due(1, "end", 7).due(7, "count", 6).due(0, "end", 8).due(27, "feed", 0, 0, 0, 0, 0).due(0, "end", -1).due(27, "count", 6);
    }

    private static void countsOfACity() {
        Check x = Check.of("square a 1;square b 2;square c 3;path a b;path c b;kind k;kind l;kind m;kind n;"
                + "statue s k a 1 1;walker v a b 1 1;walker w a b 1 1;walker x a b 1 1;walker y a b 1 1;walker z a b 1 1;arrears 7;");
        x.row("count", 3, 2, 4, 1, 5, 7, 0, Check.NONE).due(Check.NONE, "count", Integer.MIN_VALUE).due(Check.NONE, "count", 8);
        x.tape("abc").due(3, "count", 6);
    }
}

/** Promises 39 and 40: plaque, byteAt. */
public final class PlaqueTest {
    public static void main(String[] args) {
        Check x = Check.of("square alt 99;square b 1;square cdefghi 0;kind k;"
                + "statue zeus k alt 98 0;statue h k b 1 0;statue abcdefg k cdefghi 0 0;arrears 9;");
        x.due(Check.NONE, "byteAt", 0);
        plaque(x, 0, "zeus is at alt");
        plaque(x, 1, "h is at b");
        plaque(x, 2, "abcdefg is at cdefghi");
        x.due(1, "days", 1, 1);
        plaque(x, 0, "zeus owes 1");
        plaque(x, 1, "h is at b");
        x.due(Check.NONE, "plaque", 3).due(Check.NONE, "plaque", -1).due('h', "byteAt", 0).due(Check.NONE, "byteAt", 9);
        x.due(1, "days", 1, 1);
        plaque(x, 0, "zeus owes 100");
        plaque(x, 1, "h owes 1");
        x.due(1, "undo").due('1', "byteAt", 7);
        plaque(x, 0, "zeus owes 1");
        x.due(9, "days", 9, 1);
        plaque(x, 0, "zeus owes 892");
        // evicted, it owes what it owed
        x.due(5, "days", 5, 1).due(1, "statue", 0, 7);
        plaque(x, 0, "zeus owes 892");
        x.due(0, "move", 2, 0);
        plaque(x, 2, "abcdefg is at alt");
        // the digits of what it owes
        Check y = Check.of("square a 9;square b 99;kind k;statue s k a 0 0;statue t k b 0 0;arrears 9;").due(1, "days", 1, 1);
        plaque(y, 0, "s owes 9");
        plaque(y, 1, "t owes 99");
        y.due(9, "days", 9, 1);
        plaque(y, 0, "s owes 90");
        plaque(y, 1, "t owes 990");
        Check.finish();
    }

    private static void plaque(Check x, int a, String text) {
        x.due(text.length(), "plaque", a);
        for (int i = 0; i < text.length(); i++) {
            x.due(text.charAt(i), "byteAt", i);
        }
        x.due(Check.NONE, "byteAt", text.length()).due(Check.NONE, "byteAt", -1).due(Check.NONE, "byteAt", Integer.MAX_VALUE);
    }
}

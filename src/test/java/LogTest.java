/** Promises 41 and 42: log, logged. */
public final class LogTest {
    private static final String TOWN = "square a 1;square b 9;square c 2;square d 0;square e 0;kind k;kind l;"
            + "statue s k a 300 0;statue t k b 12 0;statue u l c 1 0;walker w e e 1 1;arrears 1;";

    public static void main(String[] args) {
        goodLogs();
        whyWrong();
        livedAsFarAsNotWrong();
        daysOfALog();
        faults();
        fortyLines();
        tooManyBytes();
        anotherLives();
        theLastLineIsWrong();
        judgingLeavesAllAsItIs();
        Check.finish();
    }

    /** Judged and lived, it says the same. */
    private static void judged(String before, String text, int line, int... logged) {
        for (int lives = 0; lives < 2; lives++) {
            Check x = Check.of(TOWN).tape(before).due(Check.NONE, "log", 1);
            x.tape(text).due(line, "log", lives).due(0, "fault").row("logged", logged).due(0, "count", 6);
            x.due(Check.NONE, "logged", 4).due(Check.NONE, "logged", -1);
        }
    }

    private static void bad(String text, int kind, int place) {
        Check x = Check.of(TOWN).tape("day 1;").due(Check.NONE, "log", 0).row("logged", 0, 1, 1, 0);
        x.tape(text).due(-2 - place, "log", 1).due(kind, "fault").row("logged", 0, 1, 1, 0).due(0, "count", 6).due(0, "now", 0);
    }

    private static void goodLogs() {
        Check x = Check.of(TOWN).row("logged", Check.NONE, Check.NONE, Check.NONE, Check.NONE);
        x.tape("").due(Check.NONE, "log", 0).row("logged", 0, 0, 0, 0);
        judged("", " \n", Check.NONE, 0, 0, 0, 0);
        judged("", "s moves d;day 2;s cleans;\ns shows l;s lends t 6;day 1;", Check.NONE, 0, 6, 3, 4);
        judged("", "s moves d;t moves a;u moves b;s moves c;", Check.NONE, 0, 4, 0, 0);
    }

    private static void whyWrong() {
        judged("day 3;", "u moves a;", 0, 1, 0, 3, 4);
        judged("", "s moves a;", 0, 2, 0, 0, 0);
        judged("", "s moves d;s moves b;", 1, 3, 1, 0, 0);
        judged("day 3;", "day 1;u cleans;", 1, 11, 1, 4, 6);
        judged("", "s cleans;", 0, 12, 0, 0, 0);
        judged("day 1;", "t cleans;", 0, 13, 0, 1, 0);
        judged("day 3;", "u shows k;", 0, 21, 0, 3, 4);
        judged("", "s shows k;", 0, 22, 0, 0, 0);
        judged("", "u shows k;s shows k;", 0, 23, 0, 0, 0);
        judged("day 3;", "s lends u 1;", 0, 31, 0, 3, 4);
        judged("day 3;", "u lends s 1;", 0, 31, 0, 3, 4);
        judged("day 1;", "u lends t 1;", 0, 32, 0, 1, 0);
        judged("", "s lends t 1;", 0, 33, 0, 0, 0);
        judged("", "s moves d;s lends s 1;s lends t 1;", 1, 39, 1, 0, 0);
        // to itself, whatever else would be wrong: evicted, a purse below it
        judged("day 3;", "u lends u 1;", 0, 39, 0, 3, 4);
        judged("", "u lends u 99;", 0, 39, 0, 0, 0);
        // the least of the whys
        judged("day 3;", "u moves c;", 0, 1, 0, 3, 4);
        judged("", "u shows l;", 0, 22, 0, 0, 0);
    }

    private static void livedAsFarAsNotWrong() {
        String text = "s moves d;day 1;s cleans;t moves d;s shows l;";
        Check x = Check.of(TOWN).tape(text).due(3, "log", 0).row("logged", 3, 3, 1, 0);
        x.due(0, "statue", 0, 1).due(0, "now", 0).due(313, "now", 2).due(0, "now", 6).due(Check.NONE, "undo");
        x.tape(text).due(3, "log", 1).row("logged", 3, 3, 1, 0);
        x.due(3, "statue", 0, 1).due(1, "now", 0).due(295, "statue", 0, 2).due(6, "now", 6).due(0, "statue", 0, 0).due(0, "undo");
        x.due(0, "statue", 0, 1).due(0, "now", 0);
    }

    private static void daysOfALog() {
        // the number of days is their seed, too
        String town = "square a 2;kind k;statue s k a 9 0;walker w a a 1 3;walker v a a 2 5;";
        for (int n = 1; n <= 60; n += 7) {
            Check x = Check.of(town).tape("day " + n + ";day 3;").due(Check.NONE, "log", 1);
            Check y = Check.of(town).due(n, "days", n, n).due(3, "days", 3, 3);
            for (int what = 0; what < 7; what++) {
                x.due(y.subject.now(what), "now", what);
            }
        }
        Check z = Check.of("kind k;").tape(Check.times(6, "day 60;") + "day 40;").due(Check.NONE, "log", 0).row("logged", 0, 7, 400, 0);
        z.tape(Check.times(6, "day 60;") + "day 39;").due(Check.NONE, "log", 1);
        z.tape("day 2;day 1;").due(0, "log", 1).row("logged", 41, 0, 399, 0).due(399, "now", 0);
        z.tape("day 1;day 1;").due(1, "log", 1).row("logged", 41, 1, 400, 0).due(400, "now", 0);
        z.tape("").due(Check.NONE, "log", 1).row("logged", 0, 0, 400, 0);
    }

    private static void faults() {
        bad("s", 1, 1);
        bad("s moves", 1, 7);
        bad("s moves d", 1, 9);
        bad("s moves d ", 1, 10);
        bad(";", 1, 0);
        bad("s ;", 1, 2);
        bad("s t;", 1, 2);
        bad("s day;", 1, 2);
        bad("s square;", 1, 2);
        bad("s or;", 1, 2);
        bad("s cleans d;", 1, 9);
        bad("moves d;", 1, 0);
        bad("7;", 1, 0);
        bad("day;", 1, 3);
        bad("day s;", 1, 4);
        bad("day 1000;", 1, 4);
        bad("s moves 1;", 1, 8);
        bad("s moves day;", 1, 8);
        bad("s lends t;", 1, 9);
        bad("s lends 1 t;", 1, 8);
        bad("s cleans;.", 1, 9);
        bad("day 0;", 2, 4);
        bad("day 61;", 2, 4);
        bad("s lends t 0;", 2, 10);
        bad("s lends t 100;", 2, 10);
        bad("x moves d;", 3, 0);
        bad("w moves d;", 3, 0);
        bad("a cleans;", 3, 0);
        bad("s moves x;", 3, 8);
        bad("s moves k;", 3, 8);
        bad("s shows a;", 3, 8);
        bad("s lends w 1;", 3, 8);
        bad("s cleans;s moves a;s moves", 1, 26);
        // TOKENS go on as long as letters and digits do
        bad("day1;", 1, 0);
        bad("day 1x;", 1, 4);
        bad("s1 cleans;", 1, 0);
        bad("s movess d;", 1, 2);
        bad("s moves\td;", 1, 7);
        bad("day 4294967297;", 1, 4);
        bad("abcdefgh cleans;", 1, 0);
        bad("day 1;" + Check.bytes(255), 1, 6);
        bad("s lends t 1 1;", 1, 12);
        bad("s shows;", 1, 7);
        bad("s shows 1;", 1, 8);
        bad("s shows x;", 3, 8);
        bad("s lends x 1;", 3, 8);
        bad("k cleans;", 3, 0);
        bad("day 1;day 1", 1, 11);
        bad(" \nday", 1, 5);
        // a NUMBER stands for no WORD and for no sign
        for (int n = 0; n < 128; n++) {
            bad(n + " 1;", 1, 0);
            bad("s " + n + " d;", 1, 2);
            bad("day 1 " + n, 1, 6);
        }
        // the borders of what may be
        judged("day 12;", "s lends t 99;", 0, 31, 0, 12, 6);
        judged("", "s lends t 99;day 60;", 0, 33, 0, 0, 0);
    }

    private static void fortyLines() {
        String forty = Check.times(40, "day 1;");
        judged("", forty, Check.NONE, 0, 40, 40, 6);
        bad(forty + "day 1;", 4, 240);
        bad(forty + " s", 4, 241);
        bad(forty + "day 0", 4, 240);
        // of one token the least
        bad(forty + ";", 1, 240);
        bad(forty + "or", 1, 240);
        bad(forty + "x", 3, 240);
    }

    private static void tooManyBytes() {
        judged("", "day 1;" + Check.times(394, " "), Check.NONE, 0, 1, 1, 0);
        bad("day 1;" + Check.times(395, " "), 1, 400);
        bad("day 1;" + Check.times(394, " ") + "day 1;", 1, 400);
        bad("day" + Check.times(396, " ") + "61;", 2, 399);
        bad("day" + Check.times(396, " ") + "60;", 1, 400);
        bad("day 1;" + Check.times(393, " ") + "xyz;", 3, 399);
        bad("day 1;" + Check.times(393, " ") + "s cleans;", 1, 400);
        bad("day 1;" + Check.times(393, " ") + "day", 1, 400);
        bad("day 1;" + Check.times(388, " ") + "abcdefghijklmn;", 1, 394);
        // the last ';' is the last byte, or one too far
        judged("", Check.times(394, " ") + "day 1;", Check.NONE, 0, 1, 1, 0);
        bad(Check.times(395, " ") + "day 1;", 1, 400);
        judged("", Check.times(400, "\n"), Check.NONE, 0, 0, 0, 0);
        bad(Check.times(401, "\n"), 1, 400);
        bad(Check.times(940, " "), 1, 400);
        bad("day" + Check.times(397, " "), 1, 400);
        // a FAULT ahead, with more bytes than may be behind it
        bad("day 0;" + Check.times(600, " "), 2, 4);
        bad(Check.times(40, "day 1;") + "day 1;" + Check.times(600, " "), 4, 240);
    }

    private static void anotherLives() {
        Check x = Check.of(TOWN).tape("s moves").due(-9, "log", 0).due(1, "fault");
        x.tape("day 1;").due(-1000, "log", 2).due(-1000, "log", -1).due(1, "fault").due(6, "count", 6).due(Check.NONE, "logged", 0);
        x.due(Check.NONE, "log", 0).due(0, "fault").row("logged", 0, 1, 1, 0).due(0, "count", 6);
        x.tape("day 2;").due(-1000, "log", Integer.MAX_VALUE).row("logged", 0, 1, 1, 0);
    }

    private static void theLastLineIsWrong() {
        judged("", Check.times(39, "day 1;") + "u cleans;", 39, 11, 39, 39, 6);
        judged("", "s moves d;" + Check.times(39, "day 1;"), Check.NONE, 0, 40, 39, 6);
    }

    private static void judgingLeavesAllAsItIs() {
        Check x = Check.of(TOWN).due(1, "days", 1, 5).tape("purse > 9").due(1, "sentence");
        String before = x.pictureOfTheCity();
        x.tape("s moves d;s cleans;s shows l;day 3;t moves a;day 20;u cleans;").due(4, "log", 0).row("logged", 1, 4, 4, 6);
        if (!x.pictureOfTheCity().equals(before)) {
            Check.fail("changed by a LOG that was judged: " + x.pictureOfTheCity());
        }
        x.due(0, "undo").due(Check.NONE, "undo");
    }
}

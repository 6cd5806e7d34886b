/** Promises 12 to 15 and 17: move, clean, show, lend, undo. */
public final class ActsTest {
    // s owes nothing and has much, t owes more each day, u is evicted at the dawn behind the second day
    private static final String TOWN = "square a 1;square b 9;square c 2;square d 0;kind k;kind l;"
            + "statue s k a 100 0;statue t k b 12 0;statue u l c 1 0;arrears 1;";

    public static void main(String[] args) {
        moves();
        cleans();
        shows();
        lends();
        undoesEachAct();
        keepsEight();
        undoesAllOfALog();
        logsNotLived();
        Check.finish();
    }

    private static Check behind(int days) {
        return Check.of(TOWN).due(days, "days", days, 1);
    }

    private static void moves() {
        Check x = Check.of(TOWN);
        x.due(2, "move", 0, 0).due(3, "move", 0, 1).due(0, "move", 0, 3).due(3, "statue", 0, 1).due(100, "statue", 0, 2);
        x.due(Check.NONE, "square", 0, 1).due(0, "square", 3, 1).due(0, "move", 1, 0).due(1, "square", 0, 1);
        x.due(Check.NONE, "move", 3, 0).due(Check.NONE, "move", -1, 0).due(Check.NONE, "move", 0, 4).due(Check.NONE, "move", 0, -1);
        Check y = behind(3).due(4, "now", 1);
        y.due(1, "move", 2, 3).due(1, "move", 2, 0).due(0, "move", 0, 2).due(2, "statue", 0, 1);
    }

    private static void cleans() {
        Check x = Check.of(TOWN);
        x.due(2, "clean", 0).due(Check.NONE, "clean", 3).due(Check.NONE, "clean", -1);
        x.due(1, "days", 1, 1).due(7, "now", 6).due(0, "clean", 0).due(94, "statue", 0, 2).due(0, "statue", 0, 5).due(6, "now", 6);
        x.due(2, "clean", 0).due(94, "statue", 0, 2).due(3, "statue", 1, 2).due(3, "clean", 1).due(3, "statue", 1, 2);
        behind(3).due(1, "clean", 2);
        // the least of the whys: not stained, with too little in its PURSE; evicted, and not stained
        Check.of(TOWN).due(2, "clean", 2).due(1, "statue", 2, 2);
        evictedAndClean().due(1, "clean", 0);
        // five pence are enough, four are not
        Check.of("square a 0;kind k;statue s k a 5 0;").due(1, "days", 1, 1).due(0, "clean", 0).due(0, "statue", 0, 2);
        Check.of("square a 0;kind k;statue s k a 4 0;").due(1, "days", 1, 1).due(3, "clean", 0).due(4, "statue", 0, 2);
    }

    /** It is looked at on day 0 for no pence; at a square without rent its debt is too much at the next dawn. */
    private static Check evictedAndClean() {
        Check x = Check.of("square a 9;square b 0;kind k;kind l;statue s k a 0 0;walker w a a 1 0;likes w k 12;");
        x.due(1, "days", 1, 1).due(0, "statue", 0, 5).due(0, "move", 0, 1).due(1, "days", 1, 1).due(1, "statue", 0, 7);
        return x.due(0, "statue", 0, 5);
    }

    private static void shows() {
        Check x = Check.of(TOWN);
        x.due(2, "show", 0, 0).due(0, "show", 0, 1).due(1, "statue", 0, 0).due(90, "statue", 0, 2).due(2, "show", 0, 1);
        x.due(3, "show", 2, 0).due(1, "statue", 2, 0).due(1, "statue", 2, 2).due(2, "show", 2, 1);
        x.due(Check.NONE, "show", 3, 0).due(Check.NONE, "show", -1, 0).due(Check.NONE, "show", 0, 2).due(Check.NONE, "show", 0, -1);
        behind(3).due(1, "show", 2, 1).due(1, "show", 2, 0);
        evictedAndClean().due(1, "show", 0, 0).due(1, "show", 0, 1).due(1, "move", 0, 0).due(1, "move", 0, 1);
        Check.of("square a 0;kind k;kind l;statue s k a 10 0;").due(0, "show", 0, 1).due(0, "statue", 0, 2);
        Check.of("square a 0;kind k;kind l;statue s k a 9 0;").due(3, "show", 0, 1).due(9, "statue", 0, 2).due(0, "statue", 0, 0);
    }

    private static void lends() {
        // t owes 6 behind two days
        Check x = behind(2).due(98, "statue", 0, 2).due(6, "statue", 1, 3).due(0, "statue", 1, 2);
        x.due(3, "lend", 0, 1, 7).due(2, "lend", 0, 1, 99).due(0, "lend", 0, 1, 4).due(94, "statue", 0, 2).due(2, "statue", 1, 3);
        x.due(0, "statue", 1, 2).due(0, "lend", 0, 1, 2).due(0, "statue", 1, 3).due(3, "lend", 0, 1, 1);
        x.due(2, "lend", 1, 0, 1).due(3, "lend", 0, 2, 4).due(0, "lend", 0, 2, 3).due(1, "days", 1, 1).due(0, "now", 1);
        x.due(Check.NONE, "lend", 0, 0, 1).due(Check.NONE, "lend", 0, 1, 0).due(Check.NONE, "lend", 0, 1, 100);
        x.due(Check.NONE, "lend", 3, 0, 1).due(Check.NONE, "lend", 0, 3, 1).due(Check.NONE, "lend", -1, 0, 1).due(Check.NONE, "lend", 0, -1, 1);
        behind(3).due(1, "lend", 2, 0, 99).due(1, "lend", 0, 2, 1);
        // one penny of one penny
        Check z = Check.of("square a 1;square b 0;kind k;statue s k a 0 0;statue t k b 1 0;").due(1, "days", 1, 1);
        z.due(2, "lend", 1, 0, 2).due(0, "lend", 1, 0, 1).due(0, "statue", 1, 2).due(0, "statue", 0, 3).due(2, "lend", 1, 0, 1);
        // 99 of 99, and what is lent is not counted as paid
        Check y = Check.of("square a 99;square b 0;kind k;statue s k a 0 0;statue t k b 99 0;").due(1, "days", 1, 1).due(0, "now", 4);
        y.due(0, "lend", 1, 0, 99).row("now", 1, 0, 0, 0, 0, 0, 3);
    }

    private static void undoesEachAct() {
        Check x = behind(2).due(0, "undo").due(Check.NONE, "undo").row("now", 0, 0, 113, 0, 0, 0, 0);
        x.due(2, "days", 2, 1);
        x.due(0, "move", 0, 3).due(0, "clean", 0).due(0, "show", 0, 1).due(0, "lend", 0, 1, 5);
        x.row("statue", new int[] {0}, 1, 3, 78, 0, 0, 0).due(1, "statue", 1, 3);
        x.due(4, "undo").row("statue", new int[] {0}, 1, 3, 83).due(6, "statue", 1, 3);
        x.due(3, "undo").row("statue", new int[] {0}, 0, 3, 93).due(0, "statue", 0, 5);
        x.due(2, "undo").row("statue", new int[] {0}, 0, 3, 98, 0, 0, 1);
        x.due(1, "undo").due(0, "statue", 0, 1).due(0, "square", 0, 1).due(Check.NONE, "square", 3, 1);
        x.due(0, "undo").due(0, "now", 0).due(Check.NONE, "undo");
        // what was not done, asked or told is not undone
        Check y = Check.of(TOWN).due(3, "move", 0, 1).due(2, "clean", 0).due(2, "show", 0, 0).due(3, "lend", 0, 1, 1);
        y.due(Check.NONE, "days", 61, 1).due(Check.NONE, "move", 0, 9).due(1, "image", 0).due(Check.NONE, "undo");
    }

    private static void keepsEight() {
        Check x = Check.of(TOWN);
        for (int i = 0; i < 10; i++) {
            x.due(0, "move", 0, i % 2 == 0 ? 3 : 0).due(1, "days", 1, i);
        }
        for (int left = 7; left >= 0; left--) {
            x.due(left, "undo").due(6 + left / 2, "now", 0);
        }
        x.due(Check.NONE, "undo").due(6, "now", 0).due(0, "statue", 0, 1);
        // just eight, and just nine
        for (int acts = 8; acts <= 9; acts++) {
            Check z = Check.of(TOWN);
            for (int i = 0; i < acts; i++) {
                z.due(1, "days", 1, i);
            }
            for (int left = 7; left >= 0; left--) {
                z.due(left, "undo").due(acts - 8 + left, "now", 0);
            }
            z.due(Check.NONE, "undo").due(acts - 8, "now", 0);
        }
        // the ring goes on
        x.due(0, "move", 0, 3).due(0, "undo").due(0, "statue", 0, 1).due(Check.NONE, "undo");
        // tiredness, glances and stains come back, too
        Check y = Check.of("square a 1;kind k;statue s k a 0 0;walker w a a 1 2;likes w k 12;");
        y.due(1, "days", 1, 1).due(1, "likes", 0, 0, 1).due(1, "now", 5).due(1, "walker", 0, 5).due(1, "statue", 0, 2).due(1, "now", 4);
        y.due(0, "undo").due(0, "likes", 0, 0, 1).due(0, "now", 5).due(0, "walker", 0, 5).due(0, "statue", 0, 6).due(0, "now", 4);
    }

    private static void undoesAllOfALog() {
        Check x = Check.of(TOWN).tape("s moves d;day 2;s cleans;t moves c;").due(3, "log", 1);
        x.due(2, "now", 0).due(3, "statue", 0, 1).due(0, "statue", 0, 5).due(0, "undo");
        x.due(0, "now", 0).due(0, "statue", 0, 1).due(Check.NONE, "undo");
        x.tape("s moves d;").due(Check.NONE, "log", 0).due(Check.NONE, "undo");
        x.tape("s moves").due(-9, "log", 1).due(Check.NONE, "undo");
        // all 400 days are over: none went by, none is undone
        Check y = Check.of("kind k;");
        for (int i = 0; i < 7; i++) {
            y.due(i < 6 ? 60 : 40, "days", 60, 1);
        }
        y.due(0, "days", 1, 1).due(6, "undo").due(360, "now", 0);
    }

    /** A LOG of which no LINE was lived is not undone: neither an empty one nor one that is WRONG at once. */
    private static void logsNotLived() {
        new Check().due(Check.NONE, "log", 1).due(Check.NONE, "undo");
        Check x = Check.of(TOWN).tape("").due(Check.NONE, "log", 1).tape(" \n ").due(Check.NONE, "log", 1).due(Check.NONE, "undo");
        for (String wrong : new String[] {"s moves a;", "s cleans;", "s shows k;", "s lends t 1;", "s lends s 1;"}) {
            x.tape(wrong + "day 1;").due(0, "log", 1).due(0, "now", 0).due(Check.NONE, "undo");
        }
        // one LINE that was lived is enough
        x.tape("s moves d;s moves d;").due(1, "log", 1).due(3, "statue", 0, 1).due(0, "undo").due(0, "statue", 0, 1);
        // what was done ahead of it is the latest still
        x.due(0, "move", 0, 3).due(1, "days", 1, 1).tape("").due(Check.NONE, "log", 1).tape("t moves d;").due(0, "log", 1);
        x.due(1, "undo").due(0, "now", 0).due(3, "statue", 0, 1).due(0, "undo").due(0, "statue", 0, 1).due(Check.NONE, "undo");
        // none of the eight that are kept makes room for it
        for (int i = 0; i < 8; i++) {
            x.due(1, "days", 1, i);
        }
        x.tape("").due(Check.NONE, "log", 1).tape("t moves b;").due(0, "log", 1).due(7, "undo").due(7, "now", 0);
        for (int left = 6; left >= 0; left--) {
            x.due(left, "undo").due(left, "now", 0);
        }
        x.due(Check.NONE, "undo");
        fewerDaysLeft();
    }

    private static void fewerDaysLeft() {
        Check y = Check.of("kind k;").tape(Check.times(6, "day 60;") + "day 39;").due(Check.NONE, "log", 1);
        y.tape("day 2;").due(0, "log", 1).due(399, "now", 0).due(0, "undo").due(0, "now", 0).due(Check.NONE, "undo");
    }
}

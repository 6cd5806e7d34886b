/** Calls that are refused, of all promises: each has its answer, and all stays as it was. */
public final class RefusedTest {
    private static final int LEAST = Integer.MIN_VALUE;
    private static final int MOST = Integer.MAX_VALUE;
    private static final int[] NEVER = {-1, 9, LEAST, MOST};

    // behind three days t owes 2 and has nothing, u is evicted, v (who bids its twenty pence) was cleaned
    private static final String TOWN = "square a 1;square b 2;square c 0;square d 9;path a b;kind k;kind l;"
            + "statue s k a 50 3;statue t l b 4 4;statue u k d 0 0;statue v l c 20 0;"
            + "walker w a b 1 5;likes w k 12;likes w l 0;arrears 1;";

    public static void main(String[] args) {
        tapeThatIsFull();
        endsThatAreNot();
        actsThatAreNotDone();
        actsOfNobody();
        daysNotAsTold();
        daysWhenAllAreOver();
        nothingToUndo();
        questionsAnsweredNone();
        questionsAheadOfAny();
        callsThatThrow();
        textsWithAFault();
        aLogLivedWithAFault();
        anotherLives();
        pairsAndGrassNotAsTold();
        imagesThatAreNot();
        anEmptyCity();
        Check.finish();
    }

    /** All is told: two acts can be undone, one image is kept, the latest FAULT was 1, the tape has three bytes. */
    private static Check full() {
        Check x = Check.of(TOWN).due(3, "days", 3, 1).due(1, "image", 0);
        x.due(7, "route", 0, 2).due(21, "bids", 0, 2).due(0, "cure", 0).due(1, "plot", 0).due(8, "plaque", 1);
        x.tape(Check.bytes(0, 1)).due(2, "taste", 0).tape(Check.bytes(1, 1, 0, 0)).due(1, "grass");
        x.tape("day 2;").due(Check.NONE, "log", 0).tape("of k").due(1, "sentence").tape("of").due(-3, "sentence").due(1, "fault");
        x.due(0, "clean", 3).due(4, "now", 1).due(2, "statue", 1, 3).due(0, "statue", 1, 2).due(1, "statue", 1, 5).due(0, "statue", 3, 5);
        return x.tape("abc");
    }

    private static void twoCanBeUndone(Check x) {
        x.due(1, "undo").due(1, "statue", 3, 5).due(0, "undo").due(0, "now", 0).due(Check.NONE, "undo");
    }

    private static void tapeThatIsFull() {
        Check x = new Check().tape("kind a;" + " ".repeat(933)).due(940, "count", 6);
        String before = x.picture();
        x.due(Check.NONE, "feed", 1, 2, 3, 4, 5).unchanged(before);
        // none of the twenty bytes came, not even as many as there was room for
        x.due(1, "end", 939).due(Check.NONE, "feed", 0x2e2e2e2e, -1, -1, -1, -1).due(939, "count", 6).due(0, "end", 940);
        x.due(1, "end", 921).due(Check.NONE, "feed", 0x2e2e2e2e, -1, -1, -1, -1).due(921, "count", 6).due(0, "end", 922);
        x.due(1, "end", 900).due(1, "city").due(1, "count", 2);
    }

    private static void endsThatAreNot() {
        Check x = full();
        String before = x.picture();
        x.due(0, "end", 4).due(0, "end", -1).due(0, "end", 941).due(0, "end", LEAST).due(0, "end", MOST).unchanged(before);
    }

    private static void actsThatAreNotDone() {
        Check x = full();
        String before = x.picture();
        x.due(1, "move", 2, 0).due(1, "move", 2, 3).due(2, "move", 0, 0).due(3, "move", 0, 1);
        x.due(1, "clean", 2).due(2, "clean", 3).due(3, "clean", 1);
        x.due(1, "show", 2, 0).due(1, "show", 2, 1).due(2, "show", 1, 1).due(3, "show", 1, 0);
        x.due(1, "lend", 2, 1, 1).due(1, "lend", 0, 2, 1).due(2, "lend", 1, 0, 1).due(3, "lend", 0, 1, 3);
        twoCanBeUndone(x.unchanged(before));
    }

    private static void actsOfNobody() {
        Check x = full();
        String before = x.picture();
        x.due(Check.NONE, "move", 4, 3).due(Check.NONE, "move", 0, 4).due(Check.NONE, "clean", 4);
        x.due(Check.NONE, "show", 4, 0).due(Check.NONE, "show", 0, 2);
        x.due(Check.NONE, "lend", 4, 1, 1).due(Check.NONE, "lend", 0, 4, 1).due(Check.NONE, "lend", 0, 0, 1);
        x.due(Check.NONE, "lend", 0, 1, 0).due(Check.NONE, "lend", 0, 1, 100).due(Check.NONE, "lend", 0, 1, -1);
        x.due(Check.NONE, "lend", 0, 1, LEAST).due(Check.NONE, "lend", 0, 1, MOST);
        for (int no : NEVER) {
            x.due(Check.NONE, "move", no, 3).due(Check.NONE, "move", 0, no).due(Check.NONE, "clean", no);
            x.due(Check.NONE, "show", no, 1).due(Check.NONE, "show", 0, no);
            x.due(Check.NONE, "lend", no, 1, 1).due(Check.NONE, "lend", 0, no, 1).due(Check.NONE, "lend", no, no, 1);
        }
        twoCanBeUndone(x.unchanged(before));
    }

    private static void daysNotAsTold() {
        Check x = full();
        String before = x.picture();
        x.due(Check.NONE, "days", 0, 1).due(Check.NONE, "days", 61, 1).due(Check.NONE, "days", -1, 1);
        x.due(Check.NONE, "days", LEAST, 1).due(Check.NONE, "days", MOST, 1);
        twoCanBeUndone(x.unchanged(before));
    }

    private static void daysWhenAllAreOver() {
        Check x = Check.of(TOWN).tape(Check.times(6, "day 60;") + "day 40;").due(Check.NONE, "log", 1).due(400, "now", 0);
        String before = x.picture();
        x.due(0, "days", 1, 1).due(0, "days", 60, 1).due(Check.NONE, "days", 61, 1).unchanged(before);
        x.due(0, "undo").due(0, "now", 0).due(Check.NONE, "undo");
    }

    private static void nothingToUndo() {
        Check x = full().due(1, "restore", 0);
        String before = x.picture();
        x.due(Check.NONE, "undo").due(Check.NONE, "undo").unchanged(before);
    }

    private static void questionsAnsweredNone() {
        Check x = full();
        String before = x.picture();
        x.due(Check.NONE, "route", 4, 1).due(Check.NONE, "route", 0, 0).due(Check.NONE, "bids", 4, 1).due(Check.NONE, "bids", 0, 0);
        // u is evicted, t has no CURE, v is SOLVENT without all of them
        x.due(Check.NONE, "cure", 2).due(Check.NONE, "cure", 4).due(Check.NONE, "plot", 2).due(Check.NONE, "plot", 3).due(Check.NONE, "plot", 4);
        x.due(Check.NONE, "plaque", 4).due(Check.NONE, "law", 16, 1, 1).due(Check.NONE, "law", 4, 1, 1).due(Check.NONE, "law", 1, 0, 1);
        x.due(Check.NONE, "law", 1, 61, 1).due(Check.NONE, "bare", 0, 1).due(Check.NONE, "bare", 61, 1);
        x.due(Check.NONE, "odds", 4, 1, 1).due(Check.NONE, "odds", 0, 0, 1).due(Check.NONE, "odds", 0, 31, 1);
        for (int no : NEVER) {
            x.due(Check.NONE, "route", no, 1).due(Check.NONE, "route", 0, no).due(Check.NONE, "bids", no, 1).due(Check.NONE, "bids", 0, no);
            x.due(Check.NONE, "cure", no).due(Check.NONE, "plot", no).due(Check.NONE, "plaque", no).due(Check.NONE, "odds", no, 1, 1);
            x.due(Check.NONE, "square", no, 0).due(Check.NONE, "square", 0, no).due(Check.NONE, "way", no, 0).due(Check.NONE, "way", 0, no);
            x.due(Check.NONE, "likes", no, 0, 0).due(Check.NONE, "likes", 0, no, 0).due(Check.NONE, "likes", 0, 0, no);
            x.due(Check.NONE, "now", no).due(Check.NONE, "count", no).due(Check.NONE, "placed", no).due(Check.NONE, "routeAt", no);
            x.due(Check.NONE, "bid", no).due(Check.NONE, "cured", no).due(Check.NONE, "logged", no);
        }
        x.due(Check.NONE, "placed", 2).due(Check.NONE, "placed", 4).due(Check.NONE, "said", LEAST).due(Check.NONE, "said", MOST);
        twoCanBeUndone(x.unchanged(before));
    }

    /** Each of these speaks of a call that was not yet made, or was refused each time. */
    private static void questionsAheadOfAny() {
        Check x = Check.of(TOWN).due(0, "fault");
        x.due(Check.NONE, "route", 0, 9).due(Check.NONE, "bids", 0, 9).due(Check.NONE, "cure", 4).due(Check.NONE, "plot", 4);
        x.due(Check.NONE, "taste", 0).due(Check.NONE, "grass").due(Check.NONE, "plaque", 4).due(-1000, "log", 2);
        x.row("routeAt", Check.NONE, Check.NONE).row("bid", Check.NONE, Check.NONE).row("cured", Check.NONE, Check.NONE, Check.NONE);
        x.due(Check.NONE, "surely").due(Check.NONE, "tells").due(Check.NONE, "plotters").due(Check.NONE, "trodden");
        x.row("byteAt", Check.NONE, Check.NONE).row("logged", Check.NONE, Check.NONE, Check.NONE, Check.NONE);
        x.due(Check.NONE, "said", Check.NONE).due(Check.NONE, "said", 0).due(0, "fault").due(Check.NONE, "undo").due(0, "restore", 0);
    }

    private static void callsThatThrow() {
        Check x = full();
        String before = x.picture();
        x.missing("statue", 4, 0).missing("statue", 0, 8).missing("walker", 1, 0).missing("walker", 0, 7);
        x.missing("yields", 4, 0, 0, 0).missing("yields", 0, 4, 0, 0).missing("yields", 0, 0, 2, 0).missing("yields", 0, 0, 0, 2);
        x.missing("today", 4, 0).missing("today", 0, 2).missing("today", 2, 0).missing("today", 2, 1).missing("placing", 2);
        for (int no : NEVER) {
            x.missing("statue", no, 0).missing("statue", 0, no).missing("walker", no, 0).missing("walker", 0, no);
            x.missing("yields", no, 0, 0, 0).missing("yields", 0, no, 0, 0).missing("yields", 0, 0, no, 0).missing("yields", 0, 0, 0, no);
            x.missing("today", no, 0).missing("today", 0, no).missing("placing", no);
        }
        twoCanBeUndone(x.unchanged(before));
    }

    private static void textsWithAFault() {
        Check x = full();
        String before = x.picture();
        x.tape("square z 9;kind y;statue x y z 1 1;walker v z z 1 1;arrears 9;kind").due(-67, "city").due(0, "count", 6);
        x.tape("abc").unchanged(before);
        x.tape("s moves d;day 3;t").due(-19, "log", 0).due(0, "count", 6).tape("of l or").due(-8, "sentence").due(0, "count", 6);
        twoCanBeUndone(x.tape("abc").unchanged(before));
    }

    /** It is read whole ahead of the first LINE that is lived. */
    private static void aLogLivedWithAFault() {
        Check x = full();
        String before = x.picture();
        x.tape("s moves d;day 3;t").due(-19, "log", 1).due(0, "count", 6);
        twoCanBeUndone(x.tape("abc").unchanged(before));
    }

    private static void anotherLives() {
        Check x = full();
        String before = x.picture();
        x.due(-1000, "log", 2).due(-1000, "log", -1).due(-1000, "log", LEAST).due(-1000, "log", MOST).unchanged(before);
        // the bytes are still there
        x.due(-2, "log", 1).due(3, "fault").due(0, "count", 6);
    }

    private static void pairsAndGrassNotAsTold() {
        Check x = full();
        String before = x.picture();
        x.tape("").due(Check.NONE, "taste", 0).tape(Check.bytes(4, 1)).due(Check.NONE, "taste", 0).due(0, "count", 6);
        x.tape(Check.bytes(0, 0, 0)).due(Check.NONE, "grass").due(0, "count", 6).tape("").due(Check.NONE, "grass");
        for (int no : NEVER) {
            x.tape(Check.bytes(1, 1)).due(Check.NONE, "taste", no).due(0, "count", 6);
        }
        x.tape("abc").unchanged(before);
        // those that nothing fits tell nothing new, either
        x.tape(Check.bytes(0, 0, 2, 1)).due(0, "taste", 0).tape(Check.bytes(0, 0, 1, 0)).due(0, "grass");
        twoCanBeUndone(x.tape("abc").unchanged(before));
    }

    private static void imagesThatAreNot() {
        Check x = full();
        String before = x.picture();
        x.due(0, "restore", 1).due(0, "restore", 2).due(0, "restore", -1).due(0, "restore", LEAST).due(0, "restore", MOST).due(0, "restore", 32);
        x.due(0, "image", 2).due(0, "image", -1).due(0, "image", LEAST).due(0, "image", MOST).due(0, "image", 32).due(0, "restore", 1);
        twoCanBeUndone(x.unchanged(before));
    }

    /** Nothing is there to be asked for; some calls need nobody. */
    private static void anEmptyCity() {
        Check x = new Check();
        x.due(Check.NONE, "move", 0, 0).due(Check.NONE, "clean", 0).due(Check.NONE, "show", 0, 0).due(Check.NONE, "lend", 0, 1, 1);
        x.missing("yields", 0, 0, 0, 0).missing("today", 0, 0).due(0, "placing", 0).due(1, "placing", 1).due(Check.NONE, "placed", 0);
        x.due(Check.NONE, "route", 0, 1).due(Check.NONE, "bids", 0, 1).due(Check.NONE, "cure", 0).due(Check.NONE, "plot", 0);
        x.due(1, "law", 0, 60, 1).due(Check.NONE, "law", 1, 60, 1).due(Check.NONE, "bare", 60, 1).due(Check.NONE, "odds", 0, 1, 1);
        x.tape(Check.bytes(0, 1)).due(Check.NONE, "taste", 0).tape(Check.bytes(0)).due(Check.NONE, "grass").due(0, "solvent");
        x.tape("not evicted").due(2, "sentence").due(0, "said", Check.NONE).due(Check.NONE, "said", 0);
        x.tape("day 60;").due(Check.NONE, "log", 1).due(60, "now", 0).due(0, "undo").due(0, "now", 0).due(60, "days", 60, 1);
    }
}

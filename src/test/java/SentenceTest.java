/** Promises 43 and 44: sentence, said. */
public final class SentenceTest {
    // s is stained; t owes 4 and is stained; u is evicted, owes 3 and is stained; v was looked at once and is clean
    private static final String TOWN = "square a 1;square b 9;square c 2;square d 0;square e 1;kind k;kind l;"
            + "statue s k a 104 0;statue t k b 32 0;statue u l c 1 0;statue v l d 7 0;"
            + "walker w d d 4 5;likes w l 12;arrears 1;";

    public static void main(String[] args) {
        plainOnes();
        joinedOnes();
        itIsSaidOfWhatIsSoNow();
        faults();
        manyOnes();
        deepOnes();
        tooManyBytes();
        aFaultLeavesTheSentence();
        numbersAtTheBorders();
        Check.finish();
    }

    private static Check town() {
        Check x = Check.of(TOWN).due(4, "days", 4, 1).due(0, "clean", 3);
        return x.row("now", 4, 4, 107, 7).due(1, "now", 5).due(7, "now", 6).due(8, "solvent");
    }

    private static void said(String text, int ones, int... statues) {
        Check x = town().tape(text).due(ones, "sentence").due(0, "fault").due(0, "count", 6);
        x.due(statues.length, "said", Check.NONE).row("said", statues);
        x.due(Check.NONE, "said", statues.length).due(Check.NONE, "said", -2).due(Check.NONE, "said", Integer.MAX_VALUE);
    }

    private static void bad(String text, int kind, int place) {
        town().tape(text).due(-1 - place, "sentence").due(kind, "fault").due(0, "count", 6).due(Check.NONE, "said", Check.NONE);
    }

    private static void badAlone(String text, int kind, int place) {
        new Check().tape(text).due(-1 - place, "sentence").due(kind, "fault").due(Check.NONE, "said", Check.NONE);
    }

    private static void plainOnes() {
        said("evicted", 1, 2);
        said("stained", 1, 0, 1, 2);
        said("solvent", 1, 3);
        said("of k", 1, 0, 1);
        said("of l", 1, 2, 3);
        said("at a", 1, 0);
        said("at d", 1, 3);
        said("at c", 1);
        said("at e", 1);
        said("purse>7", 1, 0);
        said("purse=7", 1, 3);
        said("purse<7", 1, 1, 2);
        said("owes>3", 1, 1);
        said("owes = 3", 1, 2);
        said("owes < 3", 1, 0, 3);
        said("glances > 0", 1, 3);
        said("glances = 000", 1, 0, 1, 2);
        said("number < 1", 1, 0);
        said("number > 1", 1, 2, 3);
        said("number = 999", 1);
    }

    private static void joinedOnes() {
        said("not evicted", 2, 0, 1, 3);
        said("not not evicted", 3, 2);
        said("(evicted)", 2, 2);
        said("((not(evicted)))", 5, 0, 1, 3);
        said("evicted or solvent", 2, 2, 3);
        said("stained and of k", 2, 0, 1);
        // all bind before any
        said("number = 0 or number = 1 and evicted", 3, 0);
        said("evicted and number = 1 or number = 0", 3, 0);
        said("(number = 0 or number = 2) and evicted", 4, 2);
        said("evicted and (number = 0 or number = 2)", 4, 2);
        // not binds one alone
        said("not stained and of k", 3);
        said("not of k or stained", 3, 0, 1, 2, 3);
        said("not (of k or evicted)", 4, 3);
        said("number = 0 or number = 1 or number = 3", 3, 0, 1, 3);
        said("number < 3 and number > 0 and stained and not evicted", 5, 1);
        said("at a or at b and owes > 3 or not (purse > 0 or owes > 3)", 7, 0, 1, 2);
    }

    private static void itIsSaidOfWhatIsSoNow() {
        Check x = Check.of(TOWN).due(Check.NONE, "said", Check.NONE).due(Check.NONE, "said", 0);
        x.tape("not stained and purse > 10 or at e").due(4, "sentence").due(2, "said", Check.NONE);
        x.due(0, "move", 2, 4).due(3, "said", Check.NONE).due(1, "days", 1, 1).due(2, "said", Check.NONE).row("said", 2, 3);
        x.due(1, "undo").due(3, "said", Check.NONE);
        // a new city has none
        x.tape("square a 1;kind k;statue s k a 99 0;").due(3, "city").due(Check.NONE, "said", Check.NONE);
        x.tape("number = 0").due(1, "sentence").due(0, "said", 0);
        // of eight statues the last one
        StringBuilder eight = new StringBuilder("kind k;");
        for (int q = 0; q < 8; q++) {
            eight.append("square q" + (char) ('a' + q) + " 1;statue s" + (char) ('a' + q) + " k q" + (char) ('a' + q) + " 1 0;");
        }
        Check y = Check.of(eight.toString()).tape("not evicted").due(2, "sentence").due(8, "said", Check.NONE);
        y.row("said", 0, 1, 2, 3, 4, 5, 6, 7, Check.NONE);
        new Check().tape("not evicted").due(2, "sentence").due(0, "said", Check.NONE).due(Check.NONE, "said", 0);
    }

    private static void faults() {
        bad("", 1, 0);
        bad("  ", 1, 2);
        bad("not", 1, 3);
        bad("(", 1, 1);
        bad("()", 1, 1);
        bad("(evicted", 1, 8);
        bad("evicted)", 1, 7);
        bad("evicted;", 1, 7);
        bad("evicted evicted", 1, 8);
        bad("evicted or", 1, 10);
        bad("evicted and or", 1, 12);
        bad("or evicted", 1, 0);
        bad("k", 1, 0);
        bad("7", 1, 0);
        bad("day", 1, 0);
        bad("of", 1, 2);
        bad("of 1", 1, 3);
        bad("of of", 1, 3);
        bad("at evicted", 1, 3);
        bad("purse", 1, 5);
        bad("purse 7", 1, 6);
        bad("purse ( 7", 1, 6);
        bad("purse <", 1, 7);
        bad("purse < k", 1, 8);
        bad("purse < 1000", 1, 8);
        bad("purse <= 1", 1, 7);
        bad("evicted.", 1, 7);
        bad("of a", 3, 3);
        bad("of x", 3, 3);
        bad("at k", 3, 3);
        bad("at s", 3, 3);
        bad("at w", 3, 3);
        bad("evicted or of x or", 3, 14);
        said("purse<999", 1, 0, 1, 2, 3);
        // TOKENS go on as long as letters and digits do
        bad("purse<1a", 1, 6);
        bad("purse1<1", 1, 0);
        bad("notevicted", 1, 0);
        bad("not evicted1", 1, 4);
        bad("evicted\t", 1, 7);
        bad("purse < 4294967297", 1, 8);
        bad("purse <" + Check.bytes(200), 1, 7);
        bad("at ax", 3, 3);
        bad("at abcdefgh", 1, 3);
        bad("number", 1, 6);
        bad("owes > <", 1, 7);
        bad("glances ; 1", 1, 8);
        bad("purse < (", 1, 8);
        bad("(not)", 1, 4);
        bad("not and evicted", 1, 4);
        bad("evicted not evicted", 1, 8);
        bad("evicted (evicted)", 1, 8);
        bad("(evicted or)", 1, 11);
        bad("(evicted))", 1, 9);
        bad("((evicted)", 1, 10);
        // a NUMBER stands for no WORD and for no sign
        for (int n = 0; n < 128; n++) {
            badAlone(n + " evicted", 1, 0);
            badAlone("evicted " + n + " evicted", 1, 8);
            badAlone("number " + n + " 1", 1, 7);
            badAlone("(evicted " + n, 1, 9);
        }
    }

    private static void manyOnes() {
        said("evicted" + Check.times(19, " or owes=3"), 20, 2);
        said("evicted" + Check.times(19, " or at a"), 20, 0, 2);
        String twenty = "at a" + Check.times(19, " or at a");
        bad(twenty + " or at a", 4, twenty.length() + 4);
        bad(twenty + " and not", 4, twenty.length() + 5);
        bad(twenty + " or (", 4, twenty.length() + 4);
        // of one token the least
        bad(twenty + " or or", 1, twenty.length() + 4);
        bad(twenty + " or x", 1, twenty.length() + 4);
        // each not and each bracket is one
        String brackets = Check.times(5, "(not at a)or ");
        said(brackets + "(not at b)or at a and evicted", 20, 0, 1, 2, 3);
        bad(brackets + "(not at b)or at a and evicted or not", 4, brackets.length() + 33);
        // as many within and behind one another as may be
        said("(at a or at b and(at a or at b and(at a or at b and(at a or at b and(at a or at b and(at a or at b and not at c))))))", 20, 0, 1);
    }

    private static void deepOnes() {
        said("not not not not not not not evicted", 8, 0, 1, 3);
        bad("not not not not not not not not evicted", 4, 32);
        bad("not not not not not not not not (", 4, 32);
        bad("not not not not not not not not )", 1, 32);
        bad("not not not not not not not not", 1, 31);
        said("(((((((evicted)))))))", 8, 2);
        bad("((((((((evicted))))))))", 4, 8);
        said("(not(not(not evicted)or stained))or((((((evicted))))))", 15, 2, 3);
        said("(((((((evicted or at a and at b)))))))", 10, 2);
    }

    private static void tooManyBytes() {
        said("evicted" + Check.times(193, " "), 1, 2);
        bad("evicted" + Check.times(194, " "), 1, 200);
        bad("evicted" + Check.times(193, " ") + "or", 1, 200);
        bad("at" + Check.times(197, " ") + "ax", 3, 199);
        bad("at" + Check.times(197, " ") + "a x", 1, 200);
        bad("at" + Check.times(190, " ") + "abcdefgh", 1, 192);
        // the last TOKEN ends with the last byte, or one too far
        said(Check.times(193, " ") + "evicted", 1, 2);
        bad(Check.times(194, " ") + "evicted", 1, 200);
        bad(Check.times(200, " "), 1, 200);
        bad(Check.times(201, " "), 1, 200);
        bad(Check.times(940, "\n"), 1, 200);
        bad("evicted and" + Check.times(189, " "), 1, 200);
        bad("evicted and" + Check.times(189, " ") + "evicted", 1, 200);
        // a FAULT ahead, with more bytes than may be behind it
        bad("of a" + Check.times(600, " "), 3, 3);
        bad("((((((((evicted))))))))" + Check.times(200, " "), 4, 8);
    }

    private static void aFaultLeavesTheSentence() {
        Check x = town().tape("of k").due(1, "sentence").due(2, "said", Check.NONE);
        x.tape("of l or of").due(-11, "sentence").due(1, "fault").due(2, "said", Check.NONE).row("said", 0, 1, Check.NONE);
        x.tape("square").due(-7, "city").row("said", 0, 1, Check.NONE);
        x.tape("of l").due(1, "sentence").due(0, "fault").row("said", 2, 3, Check.NONE);
    }

    private static void numbersAtTheBorders() {
        // none, some and all of it: s has 999, t nothing
        String town = "square a 0;square b 0;kind k;statue s k a 999 0;statue t k b 0 0;";
        String[] texts = {"purse < 0", "purse = 0", "purse > 0", "purse < 999", "purse = 999", "purse > 999", "purse > 998",
            "owes < 0", "owes = 0", "owes > 0", "glances < 1", "glances > 0", "number < 0", "number = 1", "number > 1", "number < 2"};
        int[][] wants = {{}, {1}, {0}, {1}, {0}, {}, {0}, {}, {0, 1}, {}, {0, 1}, {}, {}, {1}, {}, {0, 1}};
        for (int i = 0; i < texts.length; i++) {
            Check x = Check.of(town).tape(texts[i]).due(1, "sentence").due(wants[i].length, "said", Check.NONE).row("said", wants[i]);
            x.due(Check.NONE, "said", wants[i].length).due(Check.NONE, "said", Integer.MIN_VALUE);
        }
        // the last of each sort
        Check x = Check.of(Check.largestCity());
        x.tape("number = 7").due(1, "sentence").due(1, "said", Check.NONE).due(7, "said", 0).due(Check.NONE, "said", 1);
        x.tape("number > 7").due(1, "sentence").due(0, "said", Check.NONE).tape("at qh").due(1, "sentence").due(7, "said", 0);
        x.tape("of ke").due(1, "sentence").due(4, "said", 0).due(Check.NONE, "said", 1);
    }
}

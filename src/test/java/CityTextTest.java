/** Promises 4 and 5: city and fault, with the TOKENS, the grammar of a CITY and its FAULTS. */
public final class CityTextTest {
    private static final String BASE = "square a 1;square b 2;kind k;kind l;statue s k a 1 1;walker w a b 1 1;";

    public static void main(String[] args) {
        goodTexts();
        noToken();
        tokensThatCannotCome();
        reservedWordsAreNoNames();
        numbersNotAsTold();
        namesNotAsTold();
        tooMany();
        theLeastOfOneToken();
        tooManyBytes();
        aFullCityOfAsManyBytesAsMayBe();
        aFaultLeavesTheCity();
        aNewCityIsNew();
        anEmptyTextIsACityToo();
        theFaultOfTheLatestText();
        Check.finish();
    }

    private static void good(String text, int lines) {
        new Check().tape(text).due(lines, "city").due(0, "fault").due(0, "count", 6);
    }

    private static void bad(String text, int kind, int place) {
        new Check().tape(text).due(-1 - place, "city").due(kind, "fault").due(0, "count", 6);
    }

    /** The FAULT stands behind the lines of BASE. */
    private static void badBehind(String text, int kind, int place) {
        bad(BASE + text, kind, BASE.length() + place);
    }

    private static void goodTexts() {
        good("", 0);
        good(" \n ", 0);
        good("kind a;", 1);
        good("kind a;kind b;", 2);
        good("\nkind\na\n;\n  kind abcdefg ; ", 2);
        good("square a 0;square b 99;square c 000;square d 007;path b a;", 5);
        good(BASE + "statue t l b 999 99;walker x b b 7 9;likes w k 0;likes w l 12;likes x k 12;arrears 9;", 12);
        bad("kind is;kind at1", 1, 13);
        good("kind nowhere;kind a;", 2);
    }

    private static void noToken() {
        bad(".", 1, 0);
        bad("kind a;.", 1, 7);
        bad("Kind a;", 1, 0);
        bad("kind\ta;", 1, 4);
        bad("kind a\r;", 1, 6);
        bad("kind " + Check.bytes(255) + ";", 1, 5);
        bad("kind " + Check.bytes(0), 1, 5);
        bad("kind abcdefgh;", 1, 5);
        bad("kind a1;", 1, 5);
        bad("kind 1a;", 1, 5);
        bad("square a 1000;", 1, 9);
        bad("square a 0001;", 1, 9);
        bad("square a 1b;", 1, 9);
        bad("square a 1{;", 1, 10);
        bad("square a 1`;", 1, 10);
        bad("square a 1/;", 1, 10);
        bad("square a 1:;", 1, 10);
        // what goes on and on wraps around to nothing that is told: neither a NUMBER nor a NAME
        bad("square a 4294967296;", 1, 9);
        bad("square a 4294967297;", 1, 9);
        bad("square a 00000000000000000001;", 1, 9);
        bad("square a 1" + Check.times(800, "0") + ";", 1, 9);
        bad("kind b;kind " + Check.times(30, "a") + "b;", 1, 12);
        bad("kind " + Check.times(800, "a") + ";", 1, 5);
        bad(Check.times(13, "a") + "kind b;", 1, 0);
        bad("kind" + Check.times(3, "\n") + "a" + Check.bytes(160) + ";", 1, 8);
    }

    private static void tokensThatCannotCome() {
        bad("kind", 1, 4);
        bad("kind  ", 1, 6);
        bad("kind a", 1, 6);
        bad("kind a \n ", 1, 9);
        bad(";", 1, 0);
        bad("kind a;;", 1, 7);
        bad("kind a b;", 1, 7);
        bad("kind 1;", 1, 5);
        bad("kind (;", 1, 5);
        bad("a;", 1, 0);
        bad("1;", 1, 0);
        bad("day 1;", 1, 0);
        bad("not evicted;", 1, 0);
        bad("square a;", 1, 8);
        bad("square a b;", 1, 9);
        bad("square a =;", 1, 9);
        bad("square a 1 1;", 1, 11);
        bad("arrears;", 1, 7);
        bad("arrears a;", 1, 8);
        badBehind("path a;", 1, 6);
        badBehind("path 1 b;", 1, 5);
        badBehind("path a b a;", 1, 9);
        badBehind("path a b1;", 1, 7);
        badBehind("walker x a b 1 1000;", 1, 15);
        badBehind("statue t;", 1, 8);
        badBehind("statue t l;", 1, 10);
        badBehind("statue t l b;", 1, 12);
        badBehind("statue t l b 1;", 1, 14);
        badBehind("statue t l b 1 1 1;", 1, 17);
        badBehind("walker x a b 1;", 1, 14);
        badBehind("likes w;", 1, 7);
        badBehind("likes w k;", 1, 9);
        badBehind("likes w k 1", 1, 11);
        // a NUMBER stands for no WORD and for no sign, whatever its value
        for (int n = 0; n < 128; n++) {
            bad(n + " a;", 1, 0);
            bad("kind a " + n, 1, 7);
            bad("kind a;" + n + ";", 1, 7);
        }
    }

    private static void reservedWordsAreNoNames() {
        String[] words = {"square", "path", "kind", "statue", "walker", "likes", "arrears", "moves", "cleans", "shows", "lends",
            "day", "or", "and", "not", "evicted", "stained", "solvent", "of", "at", "purse", "owes", "glances", "number"};
        for (String word : words) {
            bad("kind " + word + ";", 1, 5);
            bad("square " + word + " 1;", 1, 7);
            badBehind("statue " + word + " l b 1 1;", 1, 7);
            badBehind("walker " + word + " a b 1 1;", 1, 7);
            // nor may one stand where a NAME that was told must
            badBehind("path " + word + " b;", 1, 5);
            badBehind("path a " + word + ";", 1, 7);
            badBehind("statue t " + word + " b 1 1;", 1, 9);
            badBehind("statue t l " + word + " 1 1;", 1, 11);
            badBehind("walker x " + word + " b 1 1;", 1, 9);
            badBehind("walker x a " + word + " 1 1;", 1, 11);
            badBehind("likes " + word + " k 1;", 1, 6);
            badBehind("likes w " + word + " 1;", 1, 8);
        }
        // a word with a letter more or less is a NAME
        good("kind squares;kind squar;kind o;kind ora;kind lend;", 5);
    }

    private static void numbersNotAsTold() {
        bad("square a 100;", 2, 9);
        bad("arrears 0;", 2, 8);
        bad("arrears 10;", 2, 8);
        badBehind("statue t l b 0 100;", 2, 15);
        badBehind("walker x a b 0 1;", 2, 13);
        badBehind("walker x a b 8 1;", 2, 13);
        badBehind("walker x a b 1 10;", 2, 15);
        badBehind("likes w k 13;", 2, 10);
        good("arrears 1;", 1);
        good(BASE + "walker x a b 1 0;", 7);
    }

    private static void namesNotAsTold() {
        bad("kind a;kind a;", 3, 12);
        bad("kind a;square a 1;", 3, 14);
        bad("square a 1;kind a;", 3, 16);
        bad("square a 1;square a 1;", 3, 18);
        badBehind("statue k k b 1 1;", 3, 7);
        badBehind("walker s a b 1 1;", 3, 7);
        badBehind("kind w;", 3, 5);
        badBehind("path c b;", 3, 5);
        badBehind("path a c;", 3, 7);
        badBehind("path k b;", 3, 5);
        badBehind("path a a;", 3, 7);
        badBehind("path a b;path a b;", 3, 16);
        badBehind("path a b;path b a;", 3, 16);
        badBehind("statue t t b 1 1;", 3, 9);
        badBehind("statue t a b 1 1;", 3, 9);
        badBehind("statue t k k 1 1;", 3, 11);
        badBehind("statue t l a 1 1;", 3, 11);
        badBehind("walker x s b 1 1;", 3, 9);
        badBehind("walker x a x 1 1;", 3, 11);
        badBehind("likes s k 1;", 3, 6);
        badBehind("likes w a 1;", 3, 8);
        badBehind("likes w k 6;likes w k 7;", 3, 20);
        bad("arrears 3;arrears 4;", 3, 10);
        good(BASE + "walker x a a 1 1;likes w k 1;likes x k 1;likes w l 1;", 10);
    }

    private static void tooMany() {
        StringBuilder squares = new StringBuilder();
        StringBuilder kinds = new StringBuilder();
        for (int i = 0; i < 8; i++) {
            squares.append("square q").append((char) ('a' + i)).append(" 1;");
        }
        for (int i = 0; i < 5; i++) {
            kinds.append("kind k").append((char) ('a' + i)).append(";");
        }
        good(squares.toString(), 8);
        bad(squares + "square", 4, squares.length());
        bad(squares + "square qa 100", 4, squares.length());
        good(kinds.toString(), 5);
        bad(kinds + " kind x;", 4, kinds.length() + 1);
        StringBuilder paths = new StringBuilder(squares);
        int many = 0;
        for (int i = 0; i < 8 && many < 16; i++) {
            for (int j = i + 1; j < 8 && many < 16; j++) {
                paths.append("path q").append((char) ('a' + i)).append(" q").append((char) ('a' + j)).append(";");
                many++;
            }
        }
        good(paths.toString(), 24);
        bad(paths + "path qg qh;", 4, paths.length());
        StringBuilder rest = new StringBuilder(squares + "kind k;");
        for (int i = 0; i < 8; i++) {
            rest.append("statue s").append((char) ('a' + i)).append(" k q").append((char) ('a' + i)).append(" 0 0;");
        }
        good(rest.toString(), 17);
        bad(rest + "statue t k qa 0 0;", 4, rest.length());
        for (int i = 0; i < 8; i++) {
            rest.append("walker w").append((char) ('a' + i)).append(" qa qb 1 1;");
        }
        good(rest.toString(), 25);
        bad(rest + "walker", 4, rest.length());
    }

    private static void theLeastOfOneToken() {
        // the first along the text, even if a later one is of a lesser kind
        bad("square a 100 .", 2, 9);
        bad("kind a;kind a.", 3, 12);
        // a NUMBER where a NAME must stand is no NUMBER out of bounds
        badBehind("path 999 999;", 1, 5);
        bad("arrears 1;arrears .", 3, 10);
    }

    private static void tooManyBytes() {
        String line = "kind ab;";
        good(line + Check.times(892, " "), 1);
        bad(line + Check.times(893, " "), 1, 900);
        bad(line + Check.times(932, " "), 1, 900);
        bad(line + Check.times(892, " ") + "kind c;", 1, 900);
        bad(line + Check.times(893, " ") + ".", 1, 900);
        bad("square ab 1;path ab" + Check.times(881, " ") + "cd;", 1, 900);
        bad("kind cd;kind" + Check.times(886, " ") + "ab;kind", 1, 900);
        // a FAULT ahead comes first, and a TOKEN that begins ahead is read whole
        bad(line + Check.times(891, " ") + "..", 1, 899);
        bad("square" + Check.times(892, " ") + "a 100;", 1, 900);
        bad("square a" + Check.times(891, " ") + "100;", 2, 899);
        bad("square a" + Check.times(891, " ") + "99;", 1, 900);
        bad(line + "kind" + Check.times(887, " ") + "ab;", 3, 899);
        bad(line + "kind" + Check.times(887, " ") + "ac;", 1, 900);
        bad(line + "kind" + Check.times(887, " ") + "acdefghi;", 1, 899);
    }

    private static void aFullCityOfAsManyBytesAsMayBe() {
        String all = Check.largestCity();
        String last = "likes wh ka 0;";
        String blanks = Check.times(900 - all.length() - last.length(), " ");
        Check x = new Check().tape(all + blanks + last).due(900, "count", 6).due(49, "city").due(0, "fault");
        x.row("count", 8, 16, 5, 8, 8, 9, 0).due(0, "likes", 7, 0, 0).due(11, "likes", 7, 4, 0).due(6, "likes", 7, 3, 0);
        // the last ';' is one byte too far
        bad(all + blanks + " " + last, 1, 900);
        String[] oneMore = {"square qi 1;", "path qa qe;", "kind kf;", "statue si ka qa 0 0;", "walker wi qa qa 1 1;"};
        for (String more : oneMore) {
            bad(all + more, 4, all.length());
        }
        bad(all + "arrears 9;", 3, all.length());
        // blanks alone
        good(Check.times(900, " "), 0);
        bad(Check.times(901, "\n"), 1, 900);
        bad(Check.times(940, " "), 1, 900);
        // the end of a text that is full
        bad("kind" + Check.times(896, " "), 1, 900);
    }

    private static void aFaultLeavesTheCity() {
        Check x = Check.of(BASE + "arrears 5;");
        x.due(2, "days", 2, 1).due(0, "move", 0, 1);
        x.tape("square z 9;square").due(-18, "city").due(1, "fault").due(0, "count", 6);
        x.row("count", 2, 0, 2, 1, 1, 5).due(2, "now", 0).due(1, "statue", 0, 1).due(1, "square", 0, 0);
        x.due(1, "undo").due(0, "statue", 0, 1);
        x.tape("kind z;").due(1, "city").due(0, "fault").row("count", 0, 0, 1, 0, 0, 3);
    }

    private static void aNewCityIsNew() {
        Check x = Check.of("square a 9;kind k;statue s k a 9 0;walker w a a 1 1;likes w k 12;arrears 1;");
        x.due(9, "days", 9, 5).due(9, "now", 0).due(1, "now", 1);
        x.tape("evicted").due(1, "sentence").due(1, "said", Check.NONE);
        x.tape("square b 4;square a 3;kind l;statue t l a 7 0;walker v a a 1 1;").due(5, "city");
        x.row("now", 0, 0, 7, 0, 0, 0, 0);
        x.row("statue", new int[] {0}, 0, 1, 7, 0, 0, 0, 0, 0).due(Check.NONE, "square", 0, 1).due(0, "square", 1, 1);
        x.row("likes", new int[] {0, 0}, 6, 0, 6).due(3, "count", 5).due(0, "walker", 0, 5).due(0, "walker", 0, 6);
        x.due(Check.NONE, "said", Check.NONE).due(Check.NONE, "undo");
        // nothing is left of paths, ways, likings and statues that were told before, with a FAULT or without
        Check y = Check.of("square a 1;square b 2;path a b;kind k;statue s k b 1 1;walker w a b 1 1;likes w k 3;arrears 5;");
        y.tape("square a 1;square b 2;square c 3;path a c;path a b;walker v b c 1 1;.").due(-69, "city");
        y.tape("square a 1;square b 2;kind k;walker w a b 1 1;walker v b b 1 1;").due(5, "city");
        y.row("square", new int[] {0}, 1, Check.NONE, 0, 0).row("square", new int[] {1}, 2, Check.NONE, 0, 2);
        y.due(0, "walker", 0, 4).due(1, "walker", 1, 4).due(1, "way", 1, 0).due(6, "likes", 0, 0, 0).row("count", 2, 0, 1, 0, 2, 3);
    }

    private static void anEmptyTextIsACityToo() {
        Check x = Check.of(BASE + "path a b;arrears 5;").due(3, "days", 3, 1).tape("evicted").due(1, "sentence");
        x.tape("").due(0, "city").due(0, "fault").row("count", 0, 0, 0, 0, 0, 3, 0).row("now", 0, 0, 0, 0, 0, 0, 0);
        x.due(Check.NONE, "square", 0, 0).missing("statue", 0, 0).missing("walker", 0, 0).due(Check.NONE, "said", Check.NONE);
        x.due(Check.NONE, "undo").due(0, "solvent").due(60, "days", 60, 1);
    }

    private static void theFaultOfTheLatestText() {
        Check x = Check.of(BASE).due(0, "fault").tape("arrears 0;").due(-9, "city").due(2, "fault");
        x.tape("t cleans;").due(-2, "log", 0).due(3, "fault").tape("").due(-1, "sentence").due(1, "fault");
        x.tape("((((((((evicted))))))))").due(-9, "sentence").due(4, "fault");
        // other calls leave it, those that read the tape, too
        x.tape(Check.bytes(0, 1)).due(2, "taste", 0).due(4, "fault").tape(Check.bytes(1, 1)).due(0, "grass").due(4, "fault");
        x.tape(Check.bytes(9)).due(Check.NONE, "taste", 0).due(Check.NONE, "grass").due(1, "days", 1, 1).due(0, "undo").due(4, "fault");
        x.due(1, "image", 0).due(1, "restore", 0).due(0, "end", -1).due(Check.NONE, "move", 9, 9).due(-1000, "log", 3).due(4, "fault");
        // one without a FAULT takes it away, whichever text had it
        x.tape("day 1;").due(Check.NONE, "log", 0).due(0, "fault").tape("of a").due(-4, "sentence").due(3, "fault");
        x.tape("of k").due(1, "sentence").due(0, "fault").tape(";").due(-2, "log", 1).due(1, "fault");
        // a LOG that is WRONG has no FAULT
        x.tape("s moves a;").due(0, "log", 1).due(0, "fault").tape("kind").due(-5, "city").due(1, "fault");
        x.tape("kind k;").due(1, "city").due(0, "fault");
    }
}

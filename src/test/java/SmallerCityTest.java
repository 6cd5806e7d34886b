/** A new CITY, told or restored, has nothing of a larger one that stood ahead of it: it answers as in a new object. */
public final class SmallerCityTest {
    private static final String[] SMALL = {
        "",
        "square a 1;",
        "kind k;",
        "square a 4;kind k;statue s k a 7 0;",
        "square a 4;kind k;statue s k a 7 0;walker w a a 1 9;arrears 1;",
        "square a 2;square b 1;path a b;kind k;kind l;statue s k a 12 3;statue t l b 9 5;walker w a b 1 5;walker v b b 2 3;likes w k 9;",
        "square a 5;square b 6;kind k;statue s k b 11 3;walker w a b 1 5;walker v b b 2 3;"
    };

    public static void main(String[] args) {
        for (String small : SMALL) {
            told(small);
            restored(small);
            behindAFault(small);
        }
        Check.finish();
    }

    /** All rows of the object are used by the larger CITY. */
    private static Check lived() {
        Check x = Check.of(Check.largestCity()).due(8, "count", 0).due(16, "count", 1).due(5, "count", 2).due(8, "count", 3).due(8, "count", 4);
        x.subject.days(9, 3);
        x.subject.placing(0);
        x.subject.route(7, 8);
        x.subject.bids(7, 8);
        x.subject.cure(7);
        x.subject.plot(7);
        return x;
    }

    private static void told(String small) {
        Check x = lived();
        x.tape(small).subject.city();
        same(x, Check.of(small));
    }

    private static void restored(String small) {
        Check x = Check.of(small).due(1, "image", 1).tape(Check.largestCity());
        x.subject.city();
        x.subject.days(9, 3);
        x.subject.placing(0);
        x.due(1, "restore", 1);
        same(x, Check.of(small));
    }

    /** What a text with a FAULT told is not there, either. */
    private static void behindAFault(String small) {
        Check x = new Check().tape(Check.largestCity() + "kind").due(-Check.largestCity().length() - 1, "city");
        x.tape(small).subject.city();
        same(x, Check.of(small));
    }

    private static void same(Check x, Check y) {
        equal(reckoned(x), reckoned(y), "reckoned");
        equal(byTexts(x), byTexts(y), "by texts");
        equal("days " + x.subject.days(25, 77), "days " + y.subject.days(25, 77), "lived");
        equal(x.pictureOfTheCity(), y.pictureOfTheCity(), "behind the days");
        equal(reckoned(x), reckoned(y), "reckoned then");
    }

    private static void equal(String got, String want, String when) {
        if (!got.equals(want)) {
            Check.fail(when + ":\n  " + got + "\ndue is\n  " + want);
        }
    }

    private static String reckoned(Check x) {
        StatueRent rent = x.subject;
        StringBuilder text = new StringBuilder();
        text.append("solvent " + rent.solvent() + ", placing " + rent.placing(0) + " of " + rent.placing(1));
        for (int i = 0; i < 3; i++) {
            text.append("; " + i + ": placed " + rent.placed(i) + ", route " + rent.route(i, 8) + ", bids " + rent.bids(i, 8));
            text.append(", cure " + rent.cure(i) + ", plot " + rent.plot(i) + ", odds " + rent.odds(i, 9, 5) + ", plaque " + rent.plaque(i));
            text.append(", law " + rent.law(1 << i, 60, i) + ", bare " + rent.bare(60, i));
            if (i < rent.count(3) && rent.statue(i, 7) == 0) {
                text.append(", today " + rent.today(i, 0) + " of " + rent.today(i, 1));
            }
        }
        return text.toString();
    }

    private static String byTexts(Check x) {
        StatueRent rent = x.subject;
        StringBuilder text = new StringBuilder();
        text.append("taste " + x.tape(Check.bytes(0, 1)).subject.taste(0) + ", grass " + x.tape(Check.bytes(1)).subject.grass());
        text.append(", log " + x.tape("s cleans;").subject.log(0) + " " + rent.fault() + ", " + x.tape("sh cleans;").subject.log(0) + " " + rent.fault());
        text.append(", sentence " + x.tape("of ke").subject.sentence() + " " + rent.fault());
        text.append(", " + x.tape("at qh").subject.sentence() + " " + rent.fault() + ", said " + rent.said(Check.NONE));
        text.append(", " + x.tape("not evicted").subject.sentence() + " " + rent.fault() + ", said " + rent.said(Check.NONE));
        return text.toString();
    }
}

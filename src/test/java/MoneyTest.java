import java.util.Arrays;

/** Promises 18 to 22, 27, 28, 32 and 33: yields, solvent, today, placing, placed, cure, cured, plot, plotters. */
public final class MoneyTest {
    private static long bestGain;
    private static int[] bestPlaces;

    public static void main(String[] args) {
        yieldsAreFractions();
        solventByRent();
        earnedToday();
        todayIsByChancesAlone();
        placingIsTheBest();
        placingOfLikeOnesIsTheFirst();
        placingWithoutTheEvicted();
        placingAgainstAllWays();
        cheapestCure();
        cureOfAStainedOne();
        cureOfLikeOnesIsTheFirst();
        cureThatComesLater();
        noCure();
        plots();
        todayIsTheLastDay();
        nobodyIsThere();
        askingChangesNothing();
        Check.finish();
    }

    private static void fraction(Check x, int above, int below, String call, int... args) {
        x.row(call, args, above, below).missing(call, with(args, 2)).missing(call, with(args, -1));
    }

    private static int[] with(int[] args, int last) {
        int[] longer = Arrays.copyOf(args, args.length + 1);
        longer[args.length] = last;
        return longer;
    }

    private static void yieldsAreFractions() {
        Check x = Check.of("square a 3;square b 1;square c 1;path a b;kind k;kind l;statue s k a 50 0;"
                + "walker u a b 5 9;walker v a a 7 7;walker w b b 1 0;likes u k 11;likes v k 5;likes v l 0;");
        // 9 * 11 / 60 + 7 * 5 / 84
        fraction(x, 31, 15, "yields", 0, 0, 0);
        // 9 * 6 / 60 alone
        fraction(x, 9, 10, "yields", 0, 0, 1);
        fraction(x, 33, 20, "yields", 0, 1, 0);
        fraction(x, 0, 1, "yields", 0, 2, 0);
        x.missing("yields", 1, 0, 0, 0).missing("yields", -1, 0, 0, 0).missing("yields", 0, 3, 0, 0);
        x.missing("yields", 0, -1, 0, 0).missing("yields", 0, 0, 2, 0).missing("yields", 0, 0, -1, 0);
        // stained by a day without a glance: 4 * 11 / 60 + 3 * 5 / 84
        Check y = Check.of("square a 9;square b 1;path a b;kind k;kind l;statue s k b 50 0;statue t k a 0 0;"
                + "walker u a a 5 9;walker v a a 7 7;likes u k 11;likes v k 5;arrears 1;");
        y.due(1, "days", 1, 1).due(1, "statue", 0, 5);
        fraction(y, 383, 420, "yields", 0, 0, 0);
        // of an evicted one, too
        y.due(9, "days", 9, 2).due(1, "statue", 1, 7).due(1, "statue", 1, 5);
        fraction(y, 383, 420, "yields", 1, 0, 0);
        // tiredness is of no matter
        Check z = Check.of("square a 0;kind k;statue s k a 0 0;walker w a a 1 9;likes w k 12;").due(1, "days", 1, 1);
        fraction(z, 9, 1, "yields", 0, 0, 0);
    }

    private static void solventByRent() {
        // yields of 3, 3 and 5/2
        Check.of("square a 3;square b 4;square c 2;kind k;kind l;statue s k a 0 0;statue t k b 0 0;statue u l c 0 0;"
                + "walker v a a 1 6;walker w b b 2 9;walker x c c 1 5;likes w k 8;").due(5, "solvent");
        // 5/2 is not 3
        Check.of("square c 3;kind l;statue u l c 0 0;walker x c c 1 5;").due(0, "solvent");
        Check.of("square a 0;kind k;statue s k a 0 0;").due(1, "solvent");
        // an evicted one is not, whatever it would yield
        Check y = Check.of("square a 4;kind k;statue s k a 0 0;walker w a a 1 4;likes w k 12;arrears 1;").due(1, "solvent");
        y.due(60, "days", 60, 1).due(1, "now", 1).due(0, "solvent");
    }

    private static void earnedToday() {
        Check x = Check.of("square a 1;square b 1;square c 1;path a b;kind k;statue s k a 30 0;statue t k c 30 0;"
                + "walker u a b 1 7;walker v b a 2 5;walker w a a 3 9;walker z b b 1 9;likes u k 12;likes v k 1;likes w k 7;");
        // 7 + 5/12 + 63/12 on day 0
        fraction(x, 38, 3, "today", 0);
        fraction(x, 0, 1, "today", 1);
        x.missing("today", 2, 0).missing("today", -1, 0);
        // on day 1 only u goes, tired once, for he looked whatever was drawn
        x.due(1, "days", 1, 1);
        fraction(x, 7, 2, "today", 0);
        Check y = Check.of("square a 1;kind k;statue s k a 10 0;walker w a a 1 9;likes w k 0;arrears 1;");
        fraction(y, 0, 1, "today", 0);
        y.due(13, "days", 13, 1).due(1, "statue", 0, 7).missing("today", 0, 0).missing("today", 0, 1);
        // stained
        Check z = Check.of("square a 0;kind k;kind l;statue s k a 10 0;walker w a a 1 9;likes w k 0;likes w l 5;");
        z.due(1, "days", 1, 1).due(0, "show", 0, 1);
        fraction(z, 5, 3, "today", 0);
    }

    /** Neither this day's dawn nor a full purse takes from it. */
    private static void todayIsByChancesAlone() {
        Check x = Check.of("square a 9;kind k;statue s k a 0 0;walker w a a 2 3;likes w k 12;arrears 1;").due(2, "days", 2, 1);
        x.due(15, "statue", 0, 3).due(1, "statue", 0, 5).due(0, "now", 1);
        fraction(x, 1, 1, "today", 0);
        x.due(1, "days", 1, 1).due(1, "now", 1).missing("today", 0, 0);
        Check y = Check.of("square a 0;kind k;statue s k a 999 0;walker w a a 1 9;likes w k 12;");
        fraction(y, 9, 1, "today", 0);
        y.due(1, "days", 1, 1).due(999, "statue", 0, 2).due(1, "statue", 0, 6);
        fraction(y, 9, 2, "today", 0);
    }

    private static void placingIsTheBest() {
        Check x = Check.of("square a 2;square b 1;square c 9;path a b;kind k;kind l;statue s k a 0 0;statue t l b 0 0;"
                + "walker u a a 1 4;walker v b b 2 9;likes u k 3;likes u l 12;likes v k 12;likes v l 0;");
        // s yields 9/2 at b, t yields 4 at a
        fraction(x, 11, 2, "placing");
        x.row("placed", 1, 0, Check.NONE).due(Check.NONE, "placed", -1).due(0, "statue", 0, 1);
        // below 0
        Check y = Check.of("square a 5;square b 7;kind k;statue s k b 0 0;walker w a a 3 2;likes w k 1;");
        fraction(y, -89, 18, "placing");
        y.due(0, "placed", 0);
        fraction(Check.of("kind k;"), 0, 1, "placing");
    }

    private static void placingOfLikeOnesIsTheFirst() {
        Check x = Check.of("square a 1;square b 1;square c 1;kind k;statue s k c 0 0;statue t k b 0 0;");
        x.row("placed", 0, 1, Check.NONE).due(-2, "placing", 0).due(1, "placing", 1);
        Check.of("square a 2;square b 1;square c 1;kind k;statue s k a 0 0;statue t k b 0 0;").row("placed", 1, 2, Check.NONE);
    }

    private static void placingWithoutTheEvicted() {
        Check x = Check.of("square a 9;square b 1;kind k;kind l;statue s l a 0 0;statue t k b 60 0;"
                + "walker w a a 1 9;likes w k 12;likes w l 0;arrears 1;");
        x.row("placed", 1, 0).due(-1, "placing", 0).due(3, "days", 3, 1).due(1, "now", 1);
        // t is stained: 4 less 9 at a, 0 less 1 at b
        x.row("placed", Check.NONE, 1).due(-1, "placing", 0);
        x.due(0, "clean", 1).row("placed", Check.NONE, 0).due(0, "placing", 0).due(1, "placing", 1);
    }

    /** Eight statues, as many squares: each permutation is tried here. */
    private static void placingAgainstAllWays() {
        StringBuilder town = new StringBuilder();
        int[] rent = {3, 1, 4, 1, 5, 9, 2, 6};
        for (int q = 0; q < 8; q++) {
            town.append("square q" + letter(q) + " " + rent[q] + ";");
        }
        town.append("kind ka;kind kb;kind kc;kind kd;kind ke;");
        for (int a = 0; a < 8; a++) {
            town.append("statue s" + letter(a) + " k" + letter(a % 5) + " q" + letter(a) + " 0 0;");
        }
        for (int w = 0; w < 8; w++) {
            town.append("walker w" + letter(w) + " q" + letter(w) + " q" + letter(w) + " " + (w % 7 + 1) + " 9;");
            town.append("likes w" + letter(w) + " k" + letter(w % 5) + " " + w * 5 % 13 + ";");
            town.append("likes w" + letter(w) + " k" + letter((w + 2) % 5) + " " + w * 7 % 13 + ";");
        }
        Check x = Check.of(town.toString());
        long[][] gain = new long[8][8];
        for (int a = 0; a < 8; a++) {
            for (int q = 0; q < 8; q++) {
                gain[a][q] = 5040L * x.subject.yields(a, q, a % 5, 0) / x.subject.yields(a, q, a % 5, 1) - 5040L * rent[q];
            }
        }
        bestPlaces = null;
        tryPlaces(gain, new int[8], 0, 0, 0);
        x.due((int) (bestGain * x.subject.placing(1) / 5040), "placing", 0);
        x.row("placed", bestPlaces);
    }

    private static char letter(int i) {
        return (char) ('a' + i);
    }

    private static void tryPlaces(long[][] gain, int[] places, int a, int taken, long sum) {
        if (a == 8) {
            if (bestPlaces == null || sum > bestGain) {
                bestGain = sum;
                bestPlaces = places.clone();
            }
            return;
        }
        for (int q = 0; q < 8; q++) {
            if ((taken >> q & 1) == 0) {
                places[a] = q;
                tryPlaces(gain, places, a + 1, taken | 1 << q, sum + gain[a][q]);
            }
        }
    }

    private static void cured(Check x, int pence, int... wants) {
        x.due(pence, "cure", 0).row("cured", wants).due(Check.NONE, "cured", 3).due(Check.NONE, "cured", -1);
    }

    private static void cheapestCure() {
        // at a it yields 1 as of k, 3 as of l; at c 3 as of k, 6 as of l; b is another one's
        String town = "square a %d;square b 0;square c %d;kind k;kind l;statue s k a 6 0;statue t k b 0 0;"
                + "walker u a a 1 6;walker v c c 1 6;likes u k 2;likes u l 6;likes v k 6;likes v l 12;";
        cured(Check.of(String.format(town, 1, 1)), 0, 0, 0, 0);
        cured(Check.of(String.format(town, 2, 2)), 8, 0, 0, 2);
        cured(Check.of(String.format(town, 2, 4)), 10, 0, 1, 0);
        cured(Check.of(String.format(town, 4, 6)), 18, 0, 1, 2);
        Check.of(String.format(town, 4, 7)).due(Check.NONE, "cure", 0);
    }

    /** s is stained at b and stands at a then, t at b; clean it yields at a 3 (l: 5), at c 6 (l: 8), stained half. */
    private static Check stained(int rentA, int rentC, String likes) {
        Check x = Check.of("square a " + rentA + ";square b 0;square c " + rentC + ";kind k;kind l;statue s k b 0 0;statue t k c 0 0;"
                + "walker u c c 1 8;walker v a a 1 6;likes u l 12;likes v l 10;" + likes);
        return x.due(1, "days", 1, 1).due(1, "statue", 0, 5).due(0, "move", 0, 0).due(0, "move", 1, 1);
    }

    private static void cureOfAStainedOne() {
        String both = "likes v k 6;likes u k 9;";
        cured(stained(1, 9, both), 0, 0, 0, 0);
        cured(stained(3, 9, both), 5, 1, 0, 0);
        cured(stained(9, 3, both), 8, 0, 0, 2);
        cured(stained(9, 5, both), 13, 1, 0, 2);
        cured(stained(5, 9, both), 15, 1, 1, 0);
        String none = "likes v k 0;likes u k 0;";
        cured(stained(2, 9, none), 10, 0, 1, 0);
        cured(stained(9, 4, none), 18, 0, 1, 2);
        cured(stained(9, 8, none), 23, 1, 1, 2);
        stained(9, 9, none).due(Check.NONE, "cure", 0);
    }

    private static void cureOfLikeOnesIsTheFirst() {
        String town = "square a 9;square b 99;square c 5;square d 5;kind k;kind l;kind m;statue s k a 0 0;"
                + "walker u c c 1 9;walker v d d 1 9;";
        // l at d or m at c: the first kind
        cured(Check.of(town + "likes u k 0;likes u l 0;likes u m 12;likes v k 0;likes v l 12;likes v m 0;"), 18, 0, 1, 3);
        cured(Check.of(town + "likes u k 0;likes u l 12;likes u m 12;likes v k 0;likes v l 12;likes v m 12;"), 18, 0, 1, 2);
        cured(Check.of(town + "likes u k 12;likes v k 12;"), 8, 0, 0, 2);
    }

    /** The cheapest one comes behind dearer ones, by KIND and by SQUARE. */
    private static void cureThatComesLater() {
        String town = "square a %d;square b %d;square c %d;kind k;kind l;kind m;statue s l b 0 0;"
                + "walker u a a 1 9;walker v b b 1 9;walker w c c 1 9;likes u k 12;likes u l 12;likes v k 12;likes v l 0;likes w l 12;";
        // as it is
        cured(Check.of(String.format(town, 0, 0, 0)), 0, 0, 1, 1);
        // k at a for 18, k at b for 10, l at a for 8
        cured(Check.of(String.format(town, 9, 9, 9)), 8, 0, 1, 0);
        // k at b for 10, l at c for 8
        cured(Check.of(String.format(town, 99, 9, 9)), 8, 0, 1, 2);
        // k at b for 10 alone
        cured(Check.of(String.format(town, 99, 9, 10)), 10, 0, 0, 1);
        // k or m at b for 10; k, l or m at a for 18, 8, 18
        cured(Check.of(String.format(town, 10, 4, 10)), 10, 0, 0, 1);
        cured(Check.of(String.format(town, 4, 10, 10)), 8, 0, 1, 0);
    }

    private static void noCure() {
        Check x = Check.of("square a 9;square b 8;kind k;statue s k a 0 0;walker w b b 1 7;likes w k 12;arrears 1;");
        x.row("cured", Check.NONE, Check.NONE, Check.NONE);
        x.due(Check.NONE, "cure", 0).due(Check.NONE, "cure", 1).due(Check.NONE, "cure", -1).due(Check.NONE, "cured", 0);
        // there is no other KIND, though one that nobody told of would be liked
        Check.of("square a 1;kind k;statue s k a 0 0;walker w a a 1 9;likes w k 0;").due(Check.NONE, "cure", 0);
        Check.of("square a 1;kind k;kind l;statue s k a 0 0;walker w a a 1 9;likes w k 0;").due(10, "cure", 0).row("cured", 0, 1, 0);
        // none for the evicted, and what was told before stays
        Check y = Check.of("square a 9;square b 0;kind k;statue s k a 0 0;arrears 1;").due(8, "cure", 0).row("cured", 0, 0, 1);
        y.due(3, "days", 3, 1).due(1, "now", 1).due(Check.NONE, "cure", 0).row("cured", 0, 0, 1, Check.NONE);
    }

    private static void plots() {
        // they bring 1, 3, 1, 3/2 and 1/14
        String town = "kind k;statue s k a 0 0;walker t a a 1 2;walker u a a 1 6;walker v a a 1 2;walker w a a 2 6;walker x a a 7 1;";
        Check x = Check.of("square a 3;" + town);
        x.due(Check.NONE, "plotters").due(Check.NONE, "plot", 1).due(Check.NONE, "plot", -1).due(Check.NONE, "plotters");
        x.due(2, "plot", 0).due(3, "plotters");
        Check.of("square a 1;" + town).due(4, "plot", 0).due(15, "plotters");
        Check.of("square a 6;" + town).due(1, "plot", 0).due(1, "plotters");
        Check.of("square a 7;" + town).due(0, "plot", 0).due(0, "plotters");
        Check.of("square a 0;" + town).due(Check.NONE, "plot", 0).due(Check.NONE, "plotters");
        // none against the evicted, and what was told before stays
        Check y = Check.of("square a 4;kind k;statue s k a 0 0;walker v a a 1 0;walker w a a 1 4;likes w k 12;arrears 1;");
        y.due(1, "plot", 0).due(2, "plotters").due(60, "days", 60, 1).due(1, "now", 1).due(Check.NONE, "plot", 0).due(2, "plotters");
        // all eight
        StringBuilder eight = new StringBuilder("square a 1;kind k;statue s k a 0 0;");
        for (int w = 0; w < 8; w++) {
            eight.append("walker w" + letter(w) + " a a 1 2;");
        }
        Check.of(eight.toString()).due(8, "plot", 0).due(255, "plotters");
    }

    private static void todayIsTheLastDay() {
        // he goes each third day, rested, and it was stained on day 1
        Check x = Check.of("square a 0;kind k;statue s k a 0 0;walker w a a 3 9;likes w k 12;");
        x.tape(Check.times(6, "day 60;") + "day 39;").due(Check.NONE, "log", 1).due(399, "now", 0);
        fraction(x, 4, 1, "today", 0);
        x.due(1, "days", 1, 1).missing("today", 0, 0).missing("today", 0, 1).missing("today", 1, 0).due(1, "solvent");
        fraction(x, 4, 3, "yields", 0, 0, 0);
    }

    private static void nobodyIsThere() {
        // no walkers: rent 0 is earned whoever looks away, rent 1 never is
        Check x = Check.of("square a 0;square b 1;kind k;statue s k a 0 0;statue t k b 0 0;").due(1, "solvent");
        x.due(Check.NONE, "plot", 0).due(Check.NONE, "plotters").due(0, "plot", 1).due(0, "plotters").due(0, "cure", 0).due(Check.NONE, "cure", 1);
        fraction(x, 0, 1, "today", 0);
        fraction(x, 0, 1, "yields", 1, 1, 0);
        // all are evicted: nobody is to be placed
        Check y = Check.of("square a 9;kind k;statue s k a 0 0;arrears 1;").due(-9, "placing", 0).due(1, "placing", 1).due(0, "placed", 0);
        y.due(3, "days", 3, 1).due(1, "now", 1).due(Check.NONE, "placed", 0).due(0, "solvent");
        fraction(y, 0, 1, "placing");
    }

    private static void askingChangesNothing() {
        Check x = Check.of("square a 2;square b 1;square c 1;path a b;kind k;kind l;statue s k a 20 0;statue t l b 20 0;"
                + "walker u a b 1 4;walker v b b 2 9;likes u k 3;").due(3, "days", 3, 1);
        String before = x.pictureOfTheCity();
        for (int a = 0; a < 2; a++) {
            x.subject.yields(a, 2, 1 - a, 0);
            x.subject.today(a, 0);
            x.subject.placed(a);
            x.subject.cure(a);
            x.subject.plot(a);
            x.subject.route(a, 8);
            x.subject.bids(a, 8);
            x.subject.plaque(a);
        }
        x.subject.placing(0);
        x.subject.solvent();
        x.tape(Check.bytes(0, 1)).due(2, "taste", 0).tape(Check.bytes(0, 0, 0)).due(1, "grass");
        if (!x.pictureOfTheCity().equals(before)) {
            Check.fail("changed by asking: " + x.pictureOfTheCity() + " was " + before);
        }
        x.due(0, "undo").due(Check.NONE, "undo");
    }
}

import java.util.ArrayList;
import java.util.List;

/** Promise 16, and 11 by it: days, with draws, looks, tiredness, rents, stains and evictions, by a plain model. */
public final class DaysTest {
    private static final int[] SEEDS = {0, 1, 2, 77, -1, Integer.MAX_VALUE, Integer.MIN_VALUE, 123456789};

    public static void main(String[] args) {
        wrongNumbers();
        tillTheLastDay();
        firstDraws();
        purseHasALimit();
        stainedIsHalf();
        everyDividesTheDay();
        tiredThreeTimesAndRested();
        theEvictedAreLeftAlone();
        drawsThatWrapAround();
        dawnByRentTimesArrears();
        seedGoesOnFromDayToDay();
        for (int seed : SEEDS) {
            againstTheModel(seed);
        }
        Check.finish();
    }

    private static void wrongNumbers() {
        Check x = Check.of("kind k;");
        x.due(Check.NONE, "days", 0, 1).due(Check.NONE, "days", 61, 1).due(Check.NONE, "days", -1, 1);
        x.due(Check.NONE, "days", Integer.MIN_VALUE, 1).due(Check.NONE, "days", Integer.MAX_VALUE, 1).due(0, "now", 0);
        x.due(1, "days", 1, 1).due(60, "days", 60, 1).due(61, "now", 0);
    }

    private static void tillTheLastDay() {
        Check x = Check.of("square a 1;kind k;statue s k a 999 0;walker w a a 1 1;");
        for (int i = 0; i < 6; i++) {
            x.due(60, "days", 60, i);
        }
        x.due(39, "days", 39, 1).due(399, "now", 0).due(1, "days", 60, 1).due(400, "now", 0);
        x.due(0, "days", 60, 1).due(0, "days", 1, 1).due(400, "now", 0).due(Check.NONE, "days", 0, 1);
        x.missing("today", 0, 0).due(Check.NONE, "bare", 60, 1).due(1, "law", 1, 60, 1).due(5, "odds", 0, 5, 1);
    }

    private static int next(int seed) {
        return seed * 1103515245 + 12345;
    }

    private static int drawn(int seed, int n) {
        return (seed >>> 8) % n;
    }

    /** A walker who likes it n looks if and only if the first draw of 12 is below n. */
    private static void firstDraws() {
        for (int likes = 0; likes <= 12; likes++) {
            for (int seed : SEEDS) {
                Check x = Check.of("square a 0;kind k;statue s k a 0 0;walker w a a 1 3;likes w k " + likes + ";");
                boolean looks = drawn(next(seed), 12) < likes;
                x.due(1, "days", 1, seed).due(looks ? 1 : 0, "statue", 0, 6).due(looks ? 0 : 1, "statue", 0, 5);
                x.due(looks ? 3 : 0, "statue", 0, 2).due(looks ? 1 : 0, "walker", 0, 6);
            }
        }
    }

    private static void purseHasALimit() {
        Check x = Check.of("square a 0;kind k;statue s k a 995 0;walker w a a 1 9;likes w k 12;");
        x.due(1, "days", 1, 1).due(999, "statue", 0, 2).due(1, "statue", 0, 6);
        Check y = Check.of("square a 0;kind k;statue s k a 989 0;walker w a a 1 9;likes w k 12;");
        y.due(1, "days", 1, 1).due(998, "statue", 0, 2);
        Check z = Check.of("square a 0;kind k;statue s k a 990 0;walker w a a 1 9;walker v a a 1 9;likes w k 12;likes v k 12;");
        z.due(1, "days", 1, 1).due(999, "statue", 0, 2).due(2, "statue", 0, 6);
        // the rent is paid of the 999 alone
        Check u = Check.of("square a 2;kind k;statue s k a 999 0;walker w a a 1 9;likes w k 12;");
        u.due(1, "days", 1, 1).due(997, "statue", 0, 2).due(2, "now", 4).due(1, "statue", 0, 6);
    }

    /** On day 0 he does not look (he likes it 0 as it is), on day 1 he likes what it shows. */
    private static void stainedIsHalf() {
        Check x = Check.of("square a 0;kind k;kind l;statue s k a 10 0;walker w a a 1 9;likes w k 0;likes w l 12;");
        x.due(1, "days", 1, 1).due(1, "statue", 0, 5).due(0, "show", 0, 1).due(1, "days", 1, 1);
        x.due(4, "statue", 0, 2).due(1, "statue", 0, 5);
        // half of one is nothing, but he looked; half of nothing, too
        for (int worth = 0; worth <= 1; worth++) {
            Check y = Check.of("square a 0;kind k;kind l;statue s k a 10 0;walker w a a 1 " + worth + ";likes w k 0;likes w l 12;");
            y.due(1, "days", 1, 1).due(0, "show", 0, 1).due(0, "statue", 0, 2).due(1, "days", 1, 1);
            y.due(0, "statue", 0, 2).due(1, "statue", 0, 6).due(1, "walker", 0, 5).due(1, "likes", 0, 1, 1);
        }
    }

    /** Who does not go every day rests between, so that a liking of 12 is a look each time he goes: on day 0, too. */
    private static void everyDividesTheDay() {
        for (int every = 2; every <= 7; every++) {
            Check x = Check.of("square a 0;kind k;statue s k a 0 0;walker w a a " + every + " 1;likes w k 12;");
            for (int day = 0; day < 15; day++) {
                x.due(1, "days", 1, 5).due(day / every + 1, "walker", 0, 5).due(day % every == 0 ? 1 : 0, "likes", 0, 0, 1);
            }
        }
    }

    /** By a seed whose first draw is 0 he looks if his chance is above 0. */
    private static void tiredThreeTimesAndRested() {
        Check x = Check.of("square a 0;square b 0;kind k;kind l;statue s k a 0 0;walker w a a 1 1;likes w k 12;likes w l 12;");
        int seed = 0;
        while (drawn(next(seed), 12) != 0) {
            seed++;
        }
        int[] tired = {1, 2, 3, 3};
        for (int t : tired) {
            x.due(1, "days", 1, seed).due(t, "likes", 0, 0, 1).due(0, "likes", 0, 1, 1);
        }
        x.due(0, "move", 0, 1);
        int[] rested = {2, 1, 0, 0};
        for (int t : rested) {
            x.due(1, "days", 1, seed).due(t, "likes", 0, 0, 1).due(t > 0 ? 1 : 0, "walker", 0, 6);
        }
        // a chance of 4 halved three times is 0: nothing is below it
        Check y = Check.of("square a 0;kind k;statue s k a 0 0;walker w a a 1 1;likes w k 4;");
        int[] looks = {1, 2, 3, 3, 4};
        int[] then = {1, 2, 3, 2, 3};
        for (int i = 0; i < 5; i++) {
            y.due(1, "days", 1, seed).due(looks[i], "walker", 0, 5).due(then[i], "likes", 0, 0, 1);
        }
    }

    /** Its purse, what it owes and its stains stay; nobody draws for it, and its square may be taken. */
    private static void theEvictedAreLeftAlone() {
        Check x = Check.of("square a 9;square b 0;square c 0;path a b;kind k;statue s k a 0 0;statue t k c 0 0;walker w a b 1 0;likes w k 12;");
        x.due(1, "days", 1, 1).due(0, "statue", 0, 5).due(9, "statue", 0, 3).due(0, "move", 0, 1);
        x.due(1, "days", 1, 1).row("statue", new int[] {0}, 0, Check.NONE, 0, 9, 0, 0, 1, 1);
        x.due(40, "days", 40, 1).row("statue", new int[] {0}, 0, Check.NONE, 0, 9, 0, 0, 1, 1).due(0, "now", 4);
        x.due(Check.NONE, "square", 1, 1).due(0, "move", 1, 1).due(1, "square", 1, 1);
        // the first draw is for the one that stands, as if the evicted one had never been
        int seed = 1;
        for (int i = 0; i < 5; i++) {
            int chance = x.subject.likes(0, 0, 2);
            int had = x.subject.statue(1, 6);
            x.due(1, "days", 1, seed).due(had + (drawn(next(seed), 12) < chance ? 1 : 0), "statue", 1, 6);
            seed = seed * 31 + 7;
        }
    }

    /** Seeds by which x * 1103515245 + 12345 goes beyond an int on both sides, and by which x is below 0. */
    private static void drawsThatWrapAround() {
        int[] seeds = {2, 3, -2, -3, 1 << 30, -(1 << 30), Integer.MAX_VALUE, Integer.MIN_VALUE, Integer.MIN_VALUE + 1};
        for (int seed : seeds) {
            int x = seed;
            int looks = 0;
            for (int i = 0; i < 8; i++) {
                long whole = x * 1103515245L + 12345L;
                x = (int) whole;
                long unsigned = whole & 0xffffffffL;
                looks += unsigned / 256 % 12 < 6 ? 1 : 0;
            }
            StringBuilder town = new StringBuilder("square a 0;kind k;statue s k a 0 0;");
            for (int w = 0; w < 8; w++) {
                town.append("walker w" + (char) ('a' + w) + " a a 1 1;");
            }
            Check.of(town.toString()).due(1, "days", 1, seed).due(looks, "statue", 0, 6).due(looks, "now", 5);
        }
    }

    private static void dawnByRentTimesArrears() {
        // it owes 4, 8, 12, .. in the evenings: more than 8 first at the dawn of day 3
        Check x = Check.of("square a 4;kind k;statue s k a 0 0;arrears 2;");
        x.due(3, "days", 3, 1).due(12, "statue", 0, 3).due(0, "statue", 0, 7).due(1, "days", 1, 1).due(1, "statue", 0, 7);
        x.due(12, "statue", 0, 3).due(12, "now", 3).due(5, "days", 5, 1).due(12, "statue", 0, 3);
        // three times without a word of it
        Check y = Check.of("square a 4;kind k;statue s k a 0 0;").due(4, "days", 4, 1).due(0, "now", 1).due(1, "days", 1, 1).due(1, "now", 1);
        // a square without rent keeps no debtor
        Check z = Check.of("square a 4;square b 0;kind k;statue s k a 3 0;arrears 9;").due(1, "days", 1, 1).due(0, "move", 0, 1);
        z.due(1, "statue", 0, 3).due(1, "days", 1, 1).due(1, "statue", 0, 7).due(0, "now", 2);
        z.due(Check.NONE, "square", 1, 1);
    }

    private static void seedGoesOnFromDayToDay() {
        String town = "square a 2;square b 1;path a b;kind k;statue s k a 9 0;statue t k b 9 0;walker w a b 1 3;walker v b a 2 2;";
        Check x = Check.of(town).due(5, "days", 5, 42);
        Check y = Check.of(town);
        int seed = 42;
        int[] goers = {2, 1, 2, 1, 2};
        for (int i = 0; i < 5; i++) {
            y.due(1, "days", 1, seed);
            for (int d = 0; d < 2 * goers[i]; d++) {
                seed = next(seed);
            }
        }
        for (int what = 0; what < 7; what++) {
            x.due(y.subject.now(what), "now", what);
        }
    }

    // ---- a plain model of days: five squares in a row, four statues, three walkers to and fro
    private static final int[] RENT = {2, 1, 3, 2, 0};
    private static final int[] KIND = {0, 1, 0, 1};
    private static final int[] PURSE = {3, 5, 0, 990};
    private static final int[][] WAY = {{0, 1, 2, 3}, {4, 3, 2}, {1}};
    private static final int[] EVERY = {1, 2, 3};
    private static final int[] WORTH = {3, 5, 2};
    private static final int[][] LIKES = {{7, 3}, {12, 6}, {6, 9}};

    private static void againstTheModel(int seed) {
        Check x = Check.of("square a 2;square b 1;square c 3;square d 2;square e 0;path a b;path b c;path c d;path d e;kind k;kind l;"
                + "statue s k a 3 0;statue t l b 5 0;statue u k c 0 0;statue v l d 990 0;"
                + "walker w a d 1 3;walker x e c 2 5;walker y b b 3 2;"
                + "likes w k 7;likes w l 3;likes x k 12;likes y l 9;arrears 2;");
        int[] purse = PURSE.clone();
        int[] owes = new int[4];
        int[] seen = new int[4];
        int[] given = new int[3];
        int[][] tired = new int[3][2];
        boolean[] evicted = new boolean[4];
        boolean[] stained = new boolean[4];
        int paid = 0;
        x.due(30, "days", 30, seed);
        for (int day = 0; day < 30; day++) {
            for (int a = 0; a < 4; a++) {
                evicted[a] |= owes[a] > 2 * RENT[a];
            }
            List<List<Integer>> looks = new ArrayList<>();
            boolean[] looked = new boolean[4];
            for (int w = 0; w < 3; w++) {
                looks.add(new ArrayList<>());
                for (int q : day % EVERY[w] == 0 ? WAY[w] : new int[0]) {
                    if (q < 4 && !evicted[q]) {
                        seed = next(seed);
                        if (drawn(seed, 12) < LIKES[w][KIND[q]] / (1 << tired[w][KIND[q]])) {
                            purse[q] = Math.min(999, purse[q] + WORTH[w] / (stained[q] ? 2 : 1));
                            seen[q]++;
                            given[w]++;
                            looked[q] = true;
                            looks.get(w).add(KIND[q]);
                        }
                    }
                }
            }
            for (int a = 0; a < 4; a++) {
                if (!evicted[a]) {
                    owes[a] += RENT[a];
                    int pays = Math.min(owes[a], purse[a]);
                    owes[a] -= pays;
                    purse[a] -= pays;
                    paid += pays;
                    stained[a] |= !looked[a];
                }
            }
            for (int w = 0; w < 3; w++) {
                for (int k = 0; k < 2; k++) {
                    tired[w][k] = looks.get(w).contains(k) ? Math.min(3, tired[w][k] + 1) : Math.max(0, tired[w][k] - 1);
                }
            }
        }
        for (int a = 0; a < 4; a++) {
            x.due(purse[a], "statue", a, 2).due(owes[a], "statue", a, 3).due(stained[a] ? 1 : 0, "statue", a, 5);
            x.due(seen[a], "statue", a, 6).due(evicted[a] ? 1 : 0, "statue", a, 7).due(evicted[a] ? Check.NONE : a, "statue", a, 1);
        }
        for (int w = 0; w < 3; w++) {
            x.due(given[w], "walker", w, 5).due(tired[w][0], "likes", w, 0, 1).due(tired[w][1], "likes", w, 1, 1);
            x.due((tired[w][0] > 0 ? 1 : 0) + (tired[w][1] > 0 ? 2 : 0), "walker", w, 6);
        }
        x.due(30, "now", 0).due(paid, "now", 4).due(given[0] + given[1] + given[2], "now", 5);
    }
}

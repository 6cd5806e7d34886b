/** Promises 6 to 11: square, statue, walker, way, likes, now. */
public final class AskCityTest {
    private static final String TOWN = "square alt 4;square burg 3;square cor 2;square dom 99;"
            + "path alt burg;path burg cor;path cor dom;path dom alt;kind lion;kind poet;"
            + "statue leo lion alt 20 5;statue ode poet burg 3 9;statue rex lion cor 0 0;"
            + "walker ann alt cor 1 6;walker bob cor cor 2 8;walker cyd dom burg 3 1;"
            + "likes ann lion 0;likes ann poet 12;likes bob lion 12;arrears 1;";

    public static void main(String[] args) {
        squares();
        statues();
        walkers();
        ways();
        likings();
        sums();
        eightOfEach();
        Check.finish();
    }

    private static void squares() {
        Check x = Check.of(TOWN);
        x.row("square", new int[] {0}, 4, 0, 10, 5, Check.NONE).row("square", new int[] {1}, 3, 1, 5, 5, Check.NONE);
        x.row("square", new int[] {2}, 2, 2, 10, 3, Check.NONE).row("square", new int[] {3}, 99, Check.NONE, 5, 4, Check.NONE);
        x.due(Check.NONE, "square", 4, 0).due(Check.NONE, "square", -1, 0).due(Check.NONE, "square", 0, -1);
        x.due(Check.NONE, "square", Integer.MAX_VALUE, 2).due(Check.NONE, "square", Integer.MIN_VALUE, 2);
    }

    private static void statues() {
        Check x = Check.of(TOWN);
        x.row("statue", new int[] {0}, 0, 0, 20, 0, 5, 0, 0, 0).row("statue", new int[] {1}, 1, 1, 3, 0, 9, 0, 0, 0);
        x.row("statue", new int[] {2}, 0, 2, 0, 0, 0, 0, 0, 0);
        x.missing("statue", 3, 0).missing("statue", -1, 0).missing("statue", 0, 8).missing("statue", 0, -1);
        x.missing("statue", Integer.MIN_VALUE, 0).missing("statue", 8, 1);
        // rent 3, a purse of 4: owes 2 behind two days, is evicted by the least arrears at the dawn behind the third
        Check y = Check.of("square a 3;square b 1;kind k;statue s k a 4 7;arrears 1;");
        y.due(1, "days", 1, 1).row("statue", new int[] {0}, 0, 0, 1, 0, 7, 1, 0, 0);
        y.due(1, "days", 1, 1).row("statue", new int[] {0}, 0, 0, 0, 2, 7, 1, 0, 0);
        y.due(1, "days", 1, 1).row("statue", new int[] {0}, 0, 0, 0, 5, 7, 1, 0, 0);
        y.due(1, "days", 1, 1).row("statue", new int[] {0}, 0, Check.NONE, 0, 5, 7, 1, 0, 1).due(Check.NONE, "square", 0, 1);
    }

    private static void walkers() {
        Check x = Check.of(TOWN + "walker dan alt alt 7 0;walker eve alt alt 1 9;likes eve lion 12;");
        x.row("walker", new int[] {0}, 0, 2, 1, 6, 3, 0, 0).row("walker", new int[] {1}, 2, 2, 2, 8, 1, 0, 0);
        x.row("walker", new int[] {2}, 3, 1, 3, 1, 3, 0, 0).row("walker", new int[] {3}, 0, 0, 7, 0, 1, 0, 0);
        x.missing("walker", 5, 0).missing("walker", -1, 0).missing("walker", 0, 7).missing("walker", 0, -1);
        // eve looks at the lion whatever is drawn, and nobody is tired of the poet by it
        x.due(1, "days", 1, 1).due(1, "walker", 4, 5).due(1, "walker", 4, 6);
    }

    private static void ways() {
        Check x = Check.of(TOWN);
        x.row("way", new int[] {0}, 0, 1, 2, Check.NONE).row("way", new int[] {1}, 2, Check.NONE);
        x.row("way", new int[] {2}, 3, 0, 1, Check.NONE).due(Check.NONE, "way", 0, -1).due(Check.NONE, "way", -1, 0);
        x.due(Check.NONE, "way", 3, 0).due(Check.NONE, "way", 0, Integer.MAX_VALUE);
        // nowhere to go: a way of no squares
        Check y = Check.of("square a 1;square b 1;square c 1;path b c;walker w a b 1 1;walker v b a 1 1;walker u a a 1 1;");
        y.due(0, "walker", 0, 4).due(Check.NONE, "way", 0, 0).due(0, "walker", 1, 4).due(1, "walker", 2, 4).due(0, "way", 2, 0);
        y.due(4, "square", 0, 3).due(0, "square", 1, 3);
        // the longest way, and the least of like ones at the first place of difference, not at the last
        Check z = Check.of("square a 1;square b 1;square c 1;square d 1;square e 1;square f 1;square g 1;square h 1;"
                + "path h g;path g f;path f e;path e d;path d c;path c b;path b a;walker w a h 1 1;walker v h a 1 1;");
        z.row("way", new int[] {0}, 0, 1, 2, 3, 4, 5, 6, 7, Check.NONE).row("way", new int[] {1}, 7, 6, 5, 4, 3, 2, 1, 0, Check.NONE);
        Check u = Check.of("square a 1;square b 1;square c 1;square d 1;square e 1;square f 1;"
                + "path a b;path a c;path b e;path c d;path d f;path e f;path c e;walker w a f 1 1;walker v f a 1 1;");
        u.row("way", new int[] {0}, 0, 1, 4, 5, Check.NONE).row("way", new int[] {1}, 5, 3, 2, 0, Check.NONE);
    }

    private static void likings() {
        Check x = Check.of(TOWN);
        x.row("likes", new int[] {0, 0}, 0, 0, 0, Check.NONE).row("likes", new int[] {0, 1}, 12, 0, 12, Check.NONE);
        x.row("likes", new int[] {1, 0}, 12, 0, 12, Check.NONE).row("likes", new int[] {2, 1}, 6, 0, 6, Check.NONE);
        x.due(Check.NONE, "likes", 3, 0, 0).due(Check.NONE, "likes", 0, 2, 0).due(Check.NONE, "likes", -1, 0, 0);
        x.due(Check.NONE, "likes", 0, -1, 0).due(Check.NONE, "likes", 0, 0, -1).due(Check.NONE, "likes", 0, 5, 0);
        // he looks each time while his chance is 12, then by draws; a walker who looks at nothing rests
        Check y = Check.of("square a 0;kind k;kind l;statue s k a 0 0;walker w a a 1 1;likes w k 12;likes w l 11;");
        y.due(1, "days", 1, 0).row("likes", new int[] {0, 0}, 12, 1, 6).row("likes", new int[] {0, 1}, 11, 0, 11);
        // by these seeds the first draw is 0: he looks while his chance is 1 at least, and tires three times at most
        Check v = Check.of("square a 0;kind k;statue s k a 0 0;walker w a a 1 1;likes w k 12;");
        int[] tiredThen = {1, 2, 3, 3, 3};
        for (int tired : tiredThen) {
            v.due(1, "days", 1, seedOfZero()).due(tired, "likes", 0, 0, 1).due(12 >> tired, "likes", 0, 0, 2);
        }
        v.due(5, "walker", 0, 5).due(5, "statue", 0, 6);
        // tired of two kinds of three
        Check u = Check.of("square a 0;square b 0;path a b;kind j;kind k;kind l;statue s k a 0 0;statue t l b 0 0;walker w a b 1 1;"
                + "likes w k 12;likes w l 12;").due(1, "days", 1, 1).due(6, "walker", 0, 6);
        u.due(0, "likes", 0, 0, 1).due(1, "likes", 0, 1, 1).due(1, "likes", 0, 2, 1);
        // 11 halved and cut again and again
        Check z = Check.of("square a 0;square b 0;square c 0;kind k;statue s k a 0 0;walker w a a 1 1;likes w k 11;");
        int[] chances = {11, 5, 2, 1};
        for (int i = 0; i < 40; i++) {
            int tired = z.subject.likes(0, 0, 1);
            z.due(chances[Math.max(0, Math.min(3, tired))], "likes", 0, 0, 2).due(1, "days", 1, 7 * i);
            z.due(11, "likes", 0, 0, 0);
        }
    }

    private static int seedOfZero() {
        int seed = 1;
        while ((seed * 1103515245 + 12345 >>> 8) % 12 != 0) {
            seed++;
        }
        return seed;
    }

    private static void sums() {
        Check x = Check.of(TOWN);
        x.row("now", 0, 0, 23, 0, 0, 0, 0, Check.NONE).due(Check.NONE, "now", -1).due(Check.NONE, "now", Integer.MAX_VALUE);
        // no walkers: all rents are paid as far as purses go, all are stained
        Check y = Check.of("square a 3;square b 2;kind k;statue s k a 7 0;statue t k b 1 0;arrears 1;");
        y.due(1, "days", 1, 1).row("now", 1, 0, 4, 1, 4, 0, 3);
        y.due(1, "days", 1, 1).row("now", 2, 0, 1, 3, 7, 0, 3);
        y.due(1, "days", 1, 1).row("now", 3, 2, 0, 5, 8, 0, 3);
        y.due(1, "days", 1, 1).row("now", 4, 2, 0, 8, 8, 0, 3);
        y.due(1, "days", 1, 1).row("now", 5, 3, 0, 8, 8, 0, 3);
    }

    /** The last of each sort, where there are as many as may be, and the one behind it. */
    private static void eightOfEach() {
        Check x = Check.of(Check.largestCity());
        x.row("square", new int[] {0}, 1, 0, 2 + 4 + 64 + 128).row("square", new int[] {7}, 8, 7, 1 + 2 + 32 + 64);
        x.row("statue", new int[] {7}, 2, 7, 97, 0, 27, 0, 0, 0).row("walker", new int[] {7}, 7, 3, 1, 9, 3, 0, 0);
        x.row("way", new int[] {7}, 7, 1, 3, Check.NONE).row("likes", new int[] {7, 4}, 11, 0, 11, Check.NONE);
        // b, d, f and h go through the fourth
        x.due(2 + 8 + 32 + 128, "square", 3, 3);
        x.due(Check.NONE, "square", 8, 0).missing("statue", 8, 0).missing("walker", 8, 0).due(Check.NONE, "way", 8, 0);
        x.due(Check.NONE, "likes", 8, 0, 0).due(Check.NONE, "likes", 7, 5, 0).due(748, "now", 2);
        // bits of all eight
        StringBuilder poor = new StringBuilder("kind k;arrears 1;");
        for (int i = 0; i < 8; i++) {
            poor.append("square q" + (char) ('a' + i) + " 9;statue s" + (char) ('a' + i) + " k q" + (char) ('a' + i) + " 0 0;");
        }
        Check.of(poor.toString()).due(0, "solvent").due(3, "days", 3, 1).row("now", 3, 255, 0, 144, 0, 0, 255);
    }
}

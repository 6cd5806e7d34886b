/** Promises 34, 35 and 38: law, bare, odds. */
public final class FutureTest {
    // s is looked at by draws, t never
    private static final String TOWN = "square a 2;square b 3;square c 0;kind k;kind l;statue s k a 1 0;statue t l b 7 0;statue u l c 0 0;"
            + "walker w a a 1 3;likes w k 9;walker v a a 2 3;arrears %d;";

    public static void main(String[] args) {
        laws();
        lawsByLiving();
        lawsThatAreNone();
        bareDays();
        chances();
        nothingChanges();
        nearTheLastDay();
        Check.finish();
    }

    private static Check town(int arrears) {
        return Check.of(String.format(TOWN, arrears));
    }

    private static void laws() {
        // t owes 2, 5, 8, .. in the evenings of days 2, 3, 4
        Check x = town(1).due(1, "law", 2, 4, 1).due(2, "law", 2, 5, 1).due(3, "law", 2, 6, 1).due(9, "law", 2, 12, 1);
        x.due(Check.NONE, "law", 2, 13, 1).due(Check.NONE, "law", 2, 60, 1).due(1, "law", 0, 60, 1).due(1, "law", 4, 60, 1);
        x.due(9, "law", 6, 12, 1).due(1, "law", 2, 1, 1);
    }

    /** The least arrears by which a city told with them, lived by days(), keeps the statue. */
    private static void lawsByLiving() {
        for (int seed = -3; seed < 20; seed++) {
            for (int n = 5; n <= 60; n += 11) {
                int least = Check.NONE;
                for (int arrears = 9; arrears >= 1; arrears--) {
                    Check y = town(arrears).due(n, "days", n, seed);
                    if (y.subject.statue(0, 7) == 0) {
                        least = arrears;
                    }
                }
                town(5).due(least, "law", 1, n, seed);
            }
        }
    }

    private static void lawsThatAreNone() {
        Check x = town(1).due(Check.NONE, "law", 8, 1, 1).due(Check.NONE, "law", -1, 1, 1).due(Check.NONE, "law", 9, 1, 1);
        x.due(Check.NONE, "law", 0, 0, 1).due(Check.NONE, "law", 0, 61, 1).due(Check.NONE, "law", 0, -1, 1).due(1, "law", 0, 60, 1);
        x.due(60, "days", 60, 1).due(1, "statue", 1, 7).due(Check.NONE, "law", 2, 1, 1).due(Check.NONE, "law", 6, 1, 1);
        x.due(1, "law", 4, 60, 1);
    }

    private static void bareDays() {
        // t is evicted at the dawn of day 4
        Check x = Check.of("square b 3;kind l;statue t l b 7 0;arrears 1;");
        x.due(4, "bare", 60, 1).due(4, "bare", 5, 1).due(Check.NONE, "bare", 4, 1).due(Check.NONE, "bare", 1, 1);
        x.due(Check.NONE, "bare", 0, 1).due(Check.NONE, "bare", 61, 1).due(Check.NONE, "bare", -5, 1);
        x.due(3, "days", 3, 1).due(Check.NONE, "bare", 1, 1).due(4, "bare", 2, 1);
        x.due(1, "days", 1, 1).due(4, "bare", 1, 1).due(1, "days", 1, 1).due(1, "now", 1).due(Check.NONE, "bare", 60, 1);
        for (int seed = 0; seed < 20; seed++) {
            Check y = Check.of("square a 2;kind k;statue s k a 1 0;walker w a a 1 3;likes w k 9;arrears 2;");
            int first = Check.NONE;
            for (int n = 60; n >= 1; n--) {
                y.subject.days(n, seed);
                if (y.subject.now(1) != 0) {
                    first = n - 1;
                }
                y.subject.undo();
            }
            y.due(first, "bare", 60, seed);
        }
    }

    private static void chances() {
        Check x = town(2);
        x.due(0, "odds", 1, 30, 1).due(30, "odds", 2, 30, 1).due(Check.NONE, "odds", 0, 0, 1).due(Check.NONE, "odds", 0, 31, 1);
        x.due(Check.NONE, "odds", 3, 1, 1).due(Check.NONE, "odds", -1, 1, 1).due(Check.NONE, "odds", 0, -1, 1);
        int[] seeds = {1, -5, Integer.MAX_VALUE - 3};
        for (int seed : seeds) {
            int stays = 0;
            for (int n = 1; n <= 30; n++) {
                x.due(20, "days", 20, seed + n - 1);
                stays += 1 - x.subject.statue(0, 7);
                x.subject.undo();
                x.due(stays, "odds", 0, n, seed);
            }
        }
        // evicted already
        Check y = town(1).due(10, "days", 10, 1).due(1, "statue", 1, 7).due(0, "odds", 1, 30, 1);
        y.due(30, "odds", 2, 30, 1);
        // it would be evicted at the dawn of the twenty-first day, not behind twenty
        Check.of("square b 1;kind l;statue t l b 18 0;arrears 1;").due(1, "odds", 0, 1, 1).due(20, "bare", 60, 1);
        Check.of("square b 1;kind l;statue t l b 17 0;arrears 1;").due(0, "odds", 0, 1, 1).due(19, "bare", 60, 1);
    }

    private static void nothingChanges() {
        Check x = town(3).due(7, "days", 7, 5);
        String before = x.picture();
        x.subject.law(1, 60, 9);
        x.subject.bare(60, 9);
        x.unchanged(before).subject.odds(0, 30, 9);
        x.unchanged(before).due(0, "undo").due(Check.NONE, "undo");
    }

    /** So many days are over; then it stands where it owes 3 in the first evening, 6 in the next, and is evicted then. */
    private static Check debtorFrom(int day) {
        Check x = Check.of("square a 0;square b 3;kind k;statue s k a 0 0;arrears 1;");
        x.tape(Check.times(6, "day 60;") + "day " + (day - 360) + ";").due(Check.NONE, "log", 1).due(day, "now", 0);
        return x.due(0, "move", 0, 1);
    }

    private static void nearTheLastDay() {
        // at the dawn of the last day; by other laws it would be at one that never comes
        Check x = debtorFrom(397).due(399, "bare", 60, 1).due(399, "bare", 3, 1).due(Check.NONE, "bare", 2, 1);
        x.due(0, "odds", 0, 5, 1).due(1, "law", 1, 2, 1).due(2, "law", 1, 3, 1).due(2, "law", 1, 60, 1).due(3, "days", 60, 1).due(1, "now", 1);
        // a day later no dawn is left for it
        Check y = debtorFrom(398).due(Check.NONE, "bare", 60, 1).due(5, "odds", 0, 5, 1).due(1, "law", 1, 60, 1);
        y.due(2, "days", 60, 1).due(0, "now", 1).due(6, "statue", 0, 3);
        // all are over: who owes too much stays
        y.due(400, "now", 0).due(Check.NONE, "bare", 60, 1).due(30, "odds", 0, 30, 1).due(1, "law", 1, 60, 1).due(0, "days", 60, 1);
        y.due(0, "now", 1);
    }
}

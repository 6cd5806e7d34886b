import java.lang.management.ManagementFactory;

/** All calls of a run live in one room: an object is small, and no call but one that throws makes anything. */
public final class RoomTest {
    private static final com.sun.management.ThreadMXBean BEAN =
            (com.sun.management.ThreadMXBean) ManagementFactory.getThreadMXBean();
    private static StatueRent subject;

    public static void main(String[] args) {
        Check warm = Check.of(town());
        everything(warm.subject);
        long atFirst = made();
        subject = new StatueRent();
        long object = made() - atFirst;
        Check x = Check.of(town());
        long before = made();
        everything(x.subject);
        long calls = made() - before;
        System.out.println("an object: " + object + " bytes, all calls: " + calls);
        if (object > 60000) {
            Check.fail("an object takes " + object + " bytes");
        }
        if (calls > 1000) {
            Check.fail("the calls take " + calls + " bytes");
        }
        x.due(5, "count", 2);
        Check.finish();
    }

    private static long made() {
        return BEAN.getThreadAllocatedBytes(Thread.currentThread().getId());
    }

    private static String town() {
        StringBuilder town = new StringBuilder("kind ka;kind kb;kind kc;kind kd;kind ke;");
        for (int i = 0; i < 8; i++) {
            char c = (char) ('a' + i);
            town.append("square q" + c + " 1;statue s" + c + " ka q" + c + " 99 " + i + ";");
        }
        for (int i = 0; i < 16; i++) {
            town.append("path q" + (char) ('a' + i % 8) + " q" + (char) ('a' + (i % 8 + 1 + i / 8) % 8) + ";");
        }
        for (int i = 0; i < 8; i++) {
            char c = (char) ('a' + i);
            town.append("walker w" + c + " q" + c + " q" + (char) ('a' + (i + 4) % 8) + " 1 3;");
        }
        return town.toString();
    }

    private static void everything(StatueRent x) {
        x.image(0);
        x.route(0, 8);
        x.bids(0, 8);
        x.placing(0);
        x.placed(7);
        x.cure(0);
        x.plot(0);
        x.law(255, 60, 1);
        x.bare(60, 1);
        x.odds(0, 30, 1);
        x.plaque(0);
        x.days(60, 1);
        x.undo();
        x.move(0, 1);
        x.clean(0);
        x.show(0, 1);
        x.lend(0, 1, 1);
        x.yields(0, 0, 0, 0);
        x.today(0, 0);
        x.solvent();
        x.restore(0);
        // "not " "( of" " ka " "or at" as words of four bytes, whole or not: a sentence, a log, a city
        x.feed(0x6e6f7420, 0x28206f66, 0x206b6120, 0x6f722061, 0x74207161);
        x.sentence();
        x.said(-1);
        x.feed(0x64617920, 0x36303b20, 0x64617920, 0x35393b20, 0x20202020);
        x.log(1);
        x.feed(0, 0, 0, 0, 0);
        x.taste(0);
        x.feed(0, 0, 0, 0, 0);
        x.grass();
        x.feed(0x6b696e64, 0x206b613b, 0x6b696e64, 0x206b623b, 0x20202020);
        x.end(0);
    }
}

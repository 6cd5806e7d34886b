import java.lang.reflect.InvocationTargetException;
import java.lang.reflect.Method;
import java.util.Arrays;
import java.util.NoSuchElementException;

/** One StatueRent under test: calls by name, each with the answer that is due (a boolean counts 1 or 0). */
final class Check {
    static final int NONE = StatueRent.NONE;
    private static int wrong = 0;
    private static int calls = 0;

    final StatueRent subject = new StatueRent();
    /** Calls of this object, but for those that a test makes by itself. */
    private int used = 0;

    /** A new object with this text as its CITY. */
    static Check of(String city) {
        Check check = new Check();
        check.tape(city);
        if (check.subject.city() < 0) {
            fail("a test's own city has a fault " + check.subject.fault() + ": " + city);
        }
        return check;
    }

    /** The tape holds just the bytes of this text. */
    Check tape(String text) {
        used(2);
        subject.end(0);
        for (int i = 0; i < text.length(); i += 20) {
            used(1);
            subject.feed(four(text, i), four(text, i + 4), four(text, i + 8), four(text, i + 12), four(text, i + 16));
        }
        if (!subject.end(text.length())) {
            fail("a test's own text is too long: " + text.length());
        }
        return this;
    }

    /** What an object answers behind its 512th call is free: no test may hang on it. */
    private void used(int more) {
        if (used <= 512 && used + more > 512) {
            fail("a test's own object is used for more than 512 calls");
        }
        used += more;
    }

    private static int four(String text, int at) {
        int number = 0;
        for (int i = at; i < at + 4; i++) {
            number = number << 8 | (i < text.length() ? text.charAt(i) : 0);
        }
        return number;
    }

    static String bytes(int... values) {
        StringBuilder text = new StringBuilder();
        for (int value : values) {
            text.append((char) value);
        }
        return text.toString();
    }

    /** As many of each sort as may be, with likings and arrears: 8 SQUARES, 16 paths, 5 KINDS, 8 STATUES, 8 WALKERS. */
    static String largestCity() {
        StringBuilder town = new StringBuilder("kind ka;kind kb;kind kc;kind kd;kind ke;arrears 9;");
        for (int i = 0; i < 8; i++) {
            town.append("square q" + letter(i) + " " + (i + 1) + ";");
            town.append("statue s" + letter(i) + " k" + letter(i % 5) + " q" + letter(i) + " 9" + i + " " + (20 + i) + ";");
        }
        for (int i = 0; i < 16; i++) {
            town.append("path q" + letter(i % 8) + " q" + letter((i % 8 + 1 + i / 8) % 8) + ";");
        }
        for (int i = 0; i < 8; i++) {
            town.append("walker w" + letter(i) + " q" + letter(i) + " q" + letter((i + 4) % 8) + " 1 9;");
        }
        return town + "likes wa ka 12;likes wh ke 11;";
    }

    private static char letter(int i) {
        return (char) ('a' + i);
    }

    static String times(int n, String text) {
        return text.repeat(n);
    }

    Check due(int want, String call, int... args) {
        calls++;
        Object got = answer(call, args);
        if (!Integer.valueOf(want).equals(got)) {
            fail(call + Arrays.toString(args) + " answered " + got + ", due is " + want);
        }
        return this;
    }

    /** NoSuchElementException is due. */
    Check missing(String call, int... args) {
        calls++;
        Object got = answer(call, args);
        if (!NoSuchElementException.class.equals(got)) {
            fail(call + Arrays.toString(args) + " answered " + got + ", due is NoSuchElementException");
        }
        return this;
    }

    /** The answers that are due with the last argument 0, 1, .. */
    Check row(String call, int[] first, int... wants) {
        for (int i = 0; i < wants.length; i++) {
            int[] args = Arrays.copyOf(first, first.length + 1);
            args[first.length] = i;
            due(wants[i], call, args);
        }
        return this;
    }

    Check row(String call, int... wants) {
        return row(call, new int[0], wants);
    }

    /**
     * What the object tells of its CITY, of all that is so, and of what other calls told last: all that can be asked
     * without a change. For a small CITY, since an object is good for 512 calls.
     */
    String picture() {
        return pictureOfTheCity() + pictureOfWhatWasTold();
    }

    String pictureOfTheCity() {
        StringBuilder text = new StringBuilder();
        tell(text, "count", 7);
        tell(text, "now", 7);
        for (int q = 0; q < subject.count(0); q++) {
            tell(text, "square", 4, q);
        }
        for (int a = 0; a < subject.count(3); a++) {
            tell(text, "statue", 8, a);
        }
        for (int w = 0; w < subject.count(4); w++) {
            tell(text, "walker", 7, w);
            for (int k = 0; k < subject.count(2); k++) {
                tell(text, "likes", 2, w, k);
            }
        }
        text.append("said ").append(subject.said(NONE)).append("; ");
        return text.toString();
    }

    /** What city(), log(), sentence(), route(), .. told last. */
    String pictureOfWhatWasTold() {
        StringBuilder text = new StringBuilder();
        text.append("fault ").append(subject.fault()).append("; ");
        tell(text, "routeAt", 3);
        tell(text, "bid", 3);
        tell(text, "cured", 3);
        tell(text, "byteAt", 10);
        tell(text, "logged", 4);
        text.append("surely ").append(subject.surely()).append(", tells ").append(subject.tells());
        text.append(", plotters ").append(subject.plotters()).append(", trodden ").append(subject.trodden());
        return text.toString();
    }

    private void tell(StringBuilder text, String call, int whats, int... first) {
        text.append(call).append(Arrays.toString(first));
        int[] args = Arrays.copyOf(first, first.length + 1);
        for (int what = 0; what < whats; what++) {
            args[first.length] = what;
            text.append(' ').append(answer(call, args));
        }
        text.append("; ");
    }

    /** All is still as in the picture. */
    Check unchanged(String picture) {
        calls++;
        String now = picture();
        if (!now.equals(picture)) {
            fail("changed to\n  " + now + "\nfrom\n  " + picture);
        }
        return this;
    }

    private Object answer(String call, int[] args) {
        Class<?>[] types = new Class<?>[args.length];
        Object[] boxed = new Object[args.length];
        for (int i = 0; i < args.length; i++) {
            types[i] = int.class;
            boxed[i] = args[i];
        }
        used(1);
        try {
            Method method = StatueRent.class.getMethod(call, types);
            Object got = method.invoke(subject, boxed);
            return got instanceof Boolean ? (Object) ((Boolean) got ? 1 : 0) : got;
        } catch (InvocationTargetException e) {
            return e.getCause().getClass();
        } catch (ReflectiveOperationException e) {
            return e.toString();
        }
    }

    static void fail(String what) {
        wrong++;
        StackTraceElement[] stack = new Throwable().getStackTrace();
        String where = "";
        for (StackTraceElement e : stack) {
            if (!e.getClassName().equals("Check")) {
                where = e.toString();
                break;
            }
        }
        System.out.println(where + ": " + what);
    }

    static void finish() {
        System.out.println(calls + " calls, " + wrong + " wrong");
        if (wrong != 0) {
            System.exit(1);
        }
    }
}

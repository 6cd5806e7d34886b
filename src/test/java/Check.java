import java.lang.reflect.InvocationTargetException;
import java.lang.reflect.Method;
import java.util.Arrays;
import java.util.NoSuchElementException;

/** One StatueRent under test: calls by name, each with the answer that is due (a boolean counts 1 or 0). */
final class Check {
    static final int NONE = StatueRent.NONE;
    private static int wrong = 0;
    private static int calls = 0;

    final StatueRent subject = new StatueRent();

    /** A new object with this text as its CITY. */
    static Check of(String city) {
        Check check = new Check();
        check.tape(city);
        if (check.subject.city() < 0) {
            fail("a test's own city has a fault " + check.subject.fault() + ": " + city);
        }
        return check;
    }

    /** The tape holds just the bytes of this text. */
    Check tape(String text) {
        subject.end(0);
        for (int i = 0; i < text.length(); i += 20) {
            subject.feed(four(text, i), four(text, i + 4), four(text, i + 8), four(text, i + 12), four(text, i + 16));
        }
        if (!subject.end(text.length())) {
            fail("a test's own text is too long: " + text.length());
        }
        return this;
    }

    private static int four(String text, int at) {
        int number = 0;
        for (int i = at; i < at + 4; i++) {
            number = number << 8 | (i < text.length() ? text.charAt(i) : 0);
        }
        return number;
    }

    static String bytes(int... values) {
        StringBuilder text = new StringBuilder();
        for (int value : values) {
            text.append((char) value);
        }
        return text.toString();
    }

    static String times(int n, String text) {
        return text.repeat(n);
    }

    Check due(int want, String call, int... args) {
        calls++;
        Object got = answer(call, args);
        if (!Integer.valueOf(want).equals(got)) {
            fail(call + Arrays.toString(args) + " answered " + got + ", due is " + want);
        }
        return this;
    }

    /** NoSuchElementException is due. */
    Check missing(String call, int... args) {
        calls++;
        Object got = answer(call, args);
        if (!NoSuchElementException.class.equals(got)) {
            fail(call + Arrays.toString(args) + " answered " + got + ", due is NoSuchElementException");
        }
        return this;
    }

    /** The answers that are due with the last argument 0, 1, .. */
    Check row(String call, int[] first, int... wants) {
        for (int i = 0; i < wants.length; i++) {
            int[] args = Arrays.copyOf(first, first.length + 1);
            args[first.length] = i;
            due(wants[i], call, args);
        }
        return this;
    }

    Check row(String call, int... wants) {
        return row(call, new int[0], wants);
    }

    private Object answer(String call, int[] args) {
        Class<?>[] types = new Class<?>[args.length];
        Object[] boxed = new Object[args.length];
        for (int i = 0; i < args.length; i++) {
            types[i] = int.class;
            boxed[i] = args[i];
        }
        try {
            Method method = StatueRent.class.getMethod(call, types);
            Object got = method.invoke(subject, boxed);
            return got instanceof Boolean ? (Object) ((Boolean) got ? 1 : 0) : got;
        } catch (InvocationTargetException e) {
            return e.getCause().getClass();
        } catch (ReflectiveOperationException e) {
            return e.toString();
        }
    }

    static void fail(String what) {
        wrong++;
        StackTraceElement[] stack = new Throwable().getStackTrace();
        String where = "";
        for (StackTraceElement e : stack) {
            if (!e.getClassName().equals("Check")) {
                where = e.toString();
                break;
            }
        }
        System.out.println(where + ": " + what);
    }

    static void finish() {
        System.out.println(calls + " calls, " + wrong + " wrong");
        if (wrong != 0) {
            System.exit(1);
        }
    }
}

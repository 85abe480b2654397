import java.lang.reflect.InvocationTargetException;
import java.lang.reflect.Method;
import java.lang.reflect.Modifier;
import java.util.HashMap;
import java.util.HashSet;
import java.util.Map;
import java.util.Set;

/**
 * Two houses. Both are told what is accepted, only one of them what is refused:
 * if a refused call changed anything, they are no longer alike.
 */
final class Twins {
    private static final int LAST = 1500000;
    private static final int[] YEARS = {0, 1, 2000, 2001, 4106, 4107, 5000};
    private static final long[] FAR_WORDS = {Long.MIN_VALUE, Long.MAX_VALUE, -1, 1L << 32, (1L << 32) + 5};
    private static final Map<String, Method> FACE = new HashMap<>();
    /** Which calls got the greatest or the least number, and at which place. */
    private static final Set<String> EXTREMES = new HashSet<>();

    static {
        for (Method m : House.class.getDeclaredMethods()) {
            boolean answers = m.getReturnType() == int.class || m.getReturnType() == double.class;
            if (answers && !Modifier.isPrivate(m.getModifiers())) {
                FACE.put(m.getName(), m);
            }
        }
        Due.is("calls of a house", FACE.size(), 38);
    }

    /** Of each number that a call of the face takes the greatest and the least one must have been handed over. */
    static void extremesWereAsked() {
        for (Method m : FACE.values()) {
            for (int i = 0; i < m.getParameterCount(); i++) {
                Class<?> type = m.getParameterTypes()[i];
                Object most = type == int.class ? (Object) Integer.MAX_VALUE : Long.MAX_VALUE;
                Object least = type == int.class ? (Object) Integer.MIN_VALUE : Long.MIN_VALUE;
                boolean both = EXTREMES.contains(place(m.getName(), i, most)) && EXTREMES.contains(place(m.getName(), i, least));
                Due.yes(m.getName() + "() was asked with the greatest and the least number " + (i + 1), type == boolean.class || both);
            }
        }
    }

    private static String place(String call, int argument, Object value) {
        return call + " " + argument + " " + value;
    }

    private static void keepExtremes(String call, Object... arguments) {
        for (int i = 0; i < arguments.length; i++) {
            Object value = arguments[i];
            if (value.equals(Integer.MAX_VALUE) || value.equals(Integer.MIN_VALUE)
                || value.equals(Long.MAX_VALUE) || value.equals(Long.MIN_VALUE)) {
                EXTREMES.add(place(call, i, value));
            }
        }
    }

    private final House told = new House();
    private final House spared = new House();

    /** A call that is accepted, or changes nothing by its nature: both are told. */
    Twins due(double want, String call, Object... arguments) {
        Due.is(text(call, arguments), answer(told, call, arguments), want);
        answer(spared, call, arguments);
        return this;
    }

    /** A call that lays something down, whose answer is another test's matter. */
    Twins tell(String call, Object... arguments) {
        Due.yes(text(call, arguments) + " is accepted", answer(told, call, arguments) >= 0);
        answer(spared, call, arguments);
        return this;
    }

    /** A call that is refused: one of them is told. */
    Twins refused(double want, String call, Object... arguments) {
        String text = text(call, arguments);
        Due.is(text, answer(told, call, arguments), want);
        for (int what = 0; what <= 6; what++) {
            Due.is("count(" + what + ") behind " + text, told.count(what), spared.count(what));
        }
        return this;
    }

    /** What one of them answers. */
    int ask(String call, Object... arguments) {
        return (int) answer(told, call, arguments);
    }

    /** The end of a test: both must be alike in all that can be seen, and in all that is taken back. */
    void alike() {
        Due.is("all that can be seen of the twins is alike", look(told) == look(spared) ? 1 : 0, 1);
        boolean more = true;
        for (int i = 0; i <= 100 && more && told.hasRoom() && spared.hasRoom(); i++) {
            int left = told.undo();
            Due.is("undo() of the twins", left, spared.undo());
            for (int what = 0; what <= 6; what++) {
                Due.is("count(" + what + ") of the twins", told.count(what), spared.count(what));
            }
            more = left >= 0;
        }
        Due.is("what is left of the twins is alike", look(told) == look(spared) ? 1 : 0, 1);
    }

    private static String text(String call, Object... arguments) {
        StringBuilder text = new StringBuilder(call).append('(');
        for (int i = 0; i < arguments.length; i++) {
            text.append(i == 0 ? "" : ", ").append(arguments[i]);
        }
        return text.append(')').toString();
    }

    private static double answer(House house, String call, Object... arguments) {
        keepExtremes(call, arguments);
        try {
            return ((Number) FACE.get(call).invoke(house, arguments)).doubleValue();
        } catch (InvocationTargetException e) {
            Due.yes(text(call, arguments) + " does not throw " + e.getCause(), false);
            return Double.NaN;
        } catch (IllegalAccessException e) {
            throw new IllegalStateException(e);
        }
    }

    private static long look(House x) {
        long seen = 7;
        for (int what = 0; what <= 6; what++) {
            seen = seen * 31 + x.count(what);
        }
        seen = lookAtRows(x, seen);
        seen = lookAtWords(x, seen);
        seen = lookAtFeasts(x, seen);
        seen = lookAtParishes(x, seen);
        for (int i = 0; i < 28 * 40; i++) {
            seen = seen * 31 + x.sign(i / 40, i % 40);
        }
        for (int i = 0; i < 1200; i++) {
            seen = seen * 31 + x.byteAt(i);
        }
        return seen;
    }

    private static long lookAtRows(House x, long before) {
        long seen = before;
        for (int year = 1; year <= 51; year++) {
            seen = seen * 31 + x.yearLength(7, year);
            for (int month = 1; month <= x.months(7, year); month++) {
                seen = seen * 31 + x.monthLength(7, year, month);
                seen = seen * 31 + x.toDay(7, year, month, 1);
            }
        }
        return seen;
    }

    private static long lookAtWords(House x, long before) {
        long seen = before;
        for (int calendar = 0; calendar < 8; calendar++) {
            for (long word = 0; word < 320; word++) {
                seen = seen * 31 + x.monthNamed(calendar, word);
            }
            for (long word : FAR_WORDS) {
                seen = seen * 31 + x.monthNamed(calendar, word);
            }
        }
        return seen;
    }

    private static long lookAtFeasts(House x, long before) {
        long seen = before;
        for (int feast = 0; feast < x.count(2); feast++) {
            for (int year : YEARS) {
                int day = x.feastDay(feast, year);
                seen = seen * 31 + day;
                seen = seen * 31 + x.moved(feast, year);
                seen = seen * 31 + x.feastOn(day, 0);
            }
        }
        return seen;
    }

    private static long lookAtParishes(House x, long before) {
        long seen = before;
        for (int parish = 0; parish < x.count(3); parish++) {
            for (int n = 0; n < 40; n++) {
                seen = seen * 31 + x.isOff(parish, n);
                seen = seen * 31 + x.isOff(parish, LAST - n);
            }
            for (int feast = 0; feast < x.count(2); feast++) {
                int day = x.feastDay(feast, 2000);
                for (int n = day - 12; day > 20 && n <= day + 12; n++) {
                    seen = seen * 31 + x.isOff(parish, n);
                }
            }
        }
        return seen;
    }
}

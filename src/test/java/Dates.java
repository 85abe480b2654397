import java.time.LocalDate;
import java.time.temporal.ChronoUnit;

/** CALENDAR 0 as java.time has it, so that no test leans on toDay(). */
final class Dates {
    private static final LocalDate DAY_ZERO = LocalDate.of(0, 3, 1);

    private Dates() { }

    static int dayOf(int year, int month, int day) {
        return (int) ChronoUnit.DAYS.between(DAY_ZERO, LocalDate.of(year, month, day));
    }
}

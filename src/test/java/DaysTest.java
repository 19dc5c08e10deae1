import java.time.LocalDate;

/** Promise 8: the functions 81 to 91. */
public final class DaysTest extends Bench {
    private static final int LAST_DAY = 2958465;

    private DaysTest() {
    }

    public static void main(String[] args) {
        f81Date();
        f81DateBeyond();
        f81DateWrong();
        f82YearF83MonthF84Day();
        f82ToF84ByTheCalendar();
        f82ToF84Wrong();
        f85Weekday();
        f86Edate();
        f87Eomonth();
        f86F87Wrong();
        f88Time();
        f89HourF90MinuteF91Second();
        end("DaysTest");
    }

    /** Behind the 29th of February 1900 that there is not. */
    private static int dayOf(int year, int month, int day) {
        return (int) (LocalDate.of(year, month, day).toEpochDay() - LocalDate.of(1899, 12, 30).toEpochDay());
    }

    private static void f81Date() {
        function(81, 1, 1900, 1, 1);
        function(81, 31, 1900, 1, 31);
        function(81, 32, 1900, 2, 1);
        function(81, 59, 1900, 2, 28);
        function(81, 60, 1900, 2, 29);
        function(81, 61, 1900, 3, 1);
        function(81, 366, 1900, 12, 31);
        function(81, 367, 1901, 1, 1);
        function(81, LAST_DAY, 9999, 12, 31);
        function(81, dayOf(2000, 2, 29), 2000, 2, 29);
        function(81, dayOf(2100, 3, 1), 2100, 2, 29);
        function(81, dayOf(2024, 5, 17), 2024.9, "5", 17.9);
        function(81, 1, 0, 1, 1);
        function(81, 1, BLANK, true, true);
        function(81, 367, 1, 1, 1);
        function(81, dayOf(3799, 1, 1), 1899, 1, 1);
        function(81, dayOf(1999, 7, 8), 99, 7, 8);
        function(81, dayOf(2000, 7, 8), 100, 7, 8);
    }

    private static void f81DateBeyond() {
        function(81, dayOf(2001, 1, 1), 2000, 13, 1);
        function(81, dayOf(2002, 2, 1), 2000, 26, 1);
        function(81, dayOf(1999, 12, 1), 2000, 0, 1);
        function(81, dayOf(1999, 11, 1), 2000, -1, 1);
        function(81, dayOf(1998, 12, 1), 2000, -12, 1);
        function(81, dayOf(2000, 2, 1), 2000, 1, 32);
        function(81, dayOf(2000, 1, 1) - 1, 2000, 1, 0);
        function(81, dayOf(2000, 1, 1) - 101, 2000, 1, -100);
        function(81, dayOf(2000, 1, 1) + 32766, 2000, 1, 32767);
        function(81, dayOf(2000 + 32766 / 12, 32766 % 12 + 1, 1), 2000, 32767, 1);
        function(81, 0, 1900, 1, 0);
        function(81, 31, 1900, 2, 0);
        function(81, 0, 1900, 2, -31);
        function(81, 60, 1900, 3, 0);
        function(81, dayOf(9999, 12, 31), 10000, 1, 0);
        function(81, LAST_DAY, 9999, 13, 0);
        function(81, 1, 1901, -11, 1);
        function(81, dayOf(1901, 3, 1), -1, 27, 1);
        function(81, LAST_DAY + 1 - 32768 + 31 - 1, 10000, 2, -32768);
    }

    private static void f81DateWrong() {
        function(81, Err.NUMBER, 1900, 1, -1);
        function(81, Err.NUMBER, 1900, 0, 1);
        function(81, Err.NUMBER, 1900, 0, 32);
        function(81, Err.NUMBER, 1900, -5, 1000);
        function(81, Err.NUMBER, -1, 1, 1);
        function(81, Err.NUMBER, 9999, 12, 32);
        function(81, Err.NUMBER, 10000, 1, 1);
        function(81, Err.NUMBER, 9999, 13, 1);
        function(81, Err.NUMBER, 32767, 32767, 32767);
        function(81, Err.NUMBER, -32768, -32768, -32768);
        function(81, Err.NUMBER, 32768, 1, 1);
        function(81, Err.NUMBER, 2000, 32768, 1);
        function(81, Err.NUMBER, 2000, 1, 32768);
        function(81, Err.NUMBER, 2000, 1, -32769);
        function(81, Err.NUMBER, -32769, 1, 1);
        function(81, Err.NUMBER, 2000, 1, 9007199254740991.0);
        function(81, Err.NUMBER, 4294969296.0, 1, 1);
        for (int place = 0; place < 3; place++) {
            wantsWhole(81, place, 2000, 1, 1);
        }
    }

    private static void isDate(double day, int year, int month, int ofMonth) {
        function(82, year, day);
        function(83, month, day);
        function(84, ofMonth, day);
    }

    private static void f82YearF83MonthF84Day() {
        isDate(0, 1900, 1, 0);
        isDate(0.99, 1900, 1, 0);
        isDate(1, 1900, 1, 1);
        isDate(31, 1900, 1, 31);
        isDate(32, 1900, 2, 1);
        isDate(59, 1900, 2, 28);
        isDate(60, 1900, 2, 29);
        isDate(60.5, 1900, 2, 29);
        isDate(61, 1900, 3, 1);
        isDate(366, 1900, 12, 31);
        isDate(367, 1901, 1, 1);
        isDate(LAST_DAY, 9999, 12, 31);
        isDate(LAST_DAY + 0.999, 9999, 12, 31);
        isDate(dayOf(2000, 2, 29), 2000, 2, 29);
        isDate(dayOf(2100, 2, 28), 2100, 2, 28);
        isDate(dayOf(2100, 3, 1), 2100, 3, 1);
    }

    private static void f82ToF84ByTheCalendar() {
        for (int day = 61; day <= LAST_DAY; day += 9973) {
            LocalDate date = LocalDate.of(1899, 12, 30).plusDays(day);
            isDate(day, date.getYear(), date.getMonthValue(), date.getDayOfMonth());
            function(81, day, date.getYear(), date.getMonthValue(), date.getDayOfMonth());
            function(85, date.getDayOfWeek().getValue(), day, 2);
        }
        for (int year = 1901; year < 2110; year++) {
            isDate(dayOf(year, 3, 1) - 1, year, 2, LocalDate.of(year, 2, 1).lengthOfMonth());
            isDate(dayOf(year, 12, 31), year, 12, 31);
        }
    }

    private static void f82ToF84Wrong() {
        for (int number = 82; number <= 85; number++) {
            function(number, Err.NUMBER, -1);
            function(number, Err.NUMBER, -0.001);
            function(number, Err.NUMBER, LAST_DAY + 1);
            function(number, Err.NUMBER, 1e300);
            function(number, Err.NUMBER, -1e300);
            wantsNumber(number, 0, 5);
        }
    }

    private static void f85Weekday() {
        for (int day = 1; day <= 15; day++) {
            function(85, (day - 1) % 7 + 1, day);
            function(85, (day - 1) % 7 + 1, day + 0.9, 1);
            function(85, (day + 5) % 7 + 1, day, 2);
            function(85, (day + 5) % 7, day, 3);
        }
        function(85, 7, 0);
        function(85, 6, 0, 2);
        function(85, 5, 0, 3);
        function(85, 6, LAST_DAY);
        function(85, 1, 1.5, 1.9);
        for (Object manner : new Object[] {0, 4, -1, 0.9, 1e15}) {
            function(85, Err.NUMBER, 5, manner);
        }
        function(85, Err.NUMBER, -1, 1);
        wantsWhole(85, 1, 5, 1);
    }

    private static void f86Edate() {
        function(86, dayOf(2024, 2, 29), dayOf(2024, 1, 31), 1);
        function(86, dayOf(2023, 2, 28), dayOf(2023, 1, 31), 1);
        function(86, dayOf(2023, 12, 31), dayOf(2024, 1, 31), -1);
        function(86, dayOf(2025, 1, 15), dayOf(2024, 1, 15), 12);
        function(86, dayOf(2024, 1, 15), dayOf(2024, 1, 15) + 0.9, 0.9);
        function(86, 60, 31, 1);
        function(86, 60, dayOf(1901, 1, 30), -11);
        function(86, 59, dayOf(1901, 1, 28), -11);
        function(86, dayOf(1901, 2, 28), 60, 12);
        function(86, 0, 0, 0);
        function(86, 31, 0, 1);
        function(86, 60, 0, 2);
        function(86, 366, 0, 12);
        function(86, 1, 32, -1);
        function(86, LAST_DAY, LAST_DAY - 61, 2);
    }

    private static void f87Eomonth() {
        function(87, dayOf(2024, 2, 29), dayOf(2024, 2, 1), 0);
        function(87, dayOf(2023, 2, 28), dayOf(2024, 2, 29), -12);
        function(87, dayOf(2024, 12, 31), dayOf(2024, 1, 31), 11);
        function(87, 31, 0, 0);
        function(87, 60, 0, 1);
        function(87, 60, 1, 1.9);
        function(87, 31, 60, -1);
        function(87, LAST_DAY, LAST_DAY, 0);
        function(87, LAST_DAY, LAST_DAY - 31, 1);
    }

    private static void f86F87Wrong() {
        for (int number = 86; number <= 87; number++) {
            function(number, Err.NUMBER, -1, 0);
            function(number, Err.NUMBER, -0.5, 5);
            function(number, Err.NUMBER, LAST_DAY + 1, -5);
            function(number, Err.NUMBER, 31, -1);
            function(number, Err.NUMBER, 0, -1);
            function(number, Err.NUMBER, LAST_DAY, 1);
            function(number, Err.NUMBER, dayOf(2000, 1, 1), 32768);
            function(number, Err.NUMBER, dayOf(9000, 1, 1), -32769);
            function(number, Err.NUMBER, dayOf(9000, 1, 1), 32767);
            function(number, Err.NUMBER, dayOf(2000, 1, 1), -32768);
            function(number, Err.NUMBER, 1e300, 1);
            wantsNumber(number, 0, 5, 1);
            wantsWhole(number, 1, 5, 1);
        }
        function(86, dayOf(2000 + 32767 / 12, 32767 % 12 + 1, 1), dayOf(2000, 1, 1), 32767);
        function(86, dayOf(9000 - 2731, 5, 1), dayOf(9000, 1, 1), -32768);
    }

    private static void f88Time() {
        function(88, 0, 0, 0, 0);
        function(88, 0.5, 12, 0, 0);
        function(88, 1.0 / 86400, 0, 0, 1);
        function(88, 86399.0 / 86400, 23, 59, 59);
        function(88, 0, 24, 0, 0);
        function(88, 0.25, 30, 0, 0);
        function(88, (90 * 60 + 30) / 86400.0, 0, 90, 30);
        function(88, (32767 * 3661L) % 86400 / 86400.0, 32767, 32767, 32767);
        function(88, 0.5, 12.9, 0.9, "0");
        for (int place = 0; place < 3; place++) {
            Object[] told = {1, 2, 3};
            told[place] = -1;
            function(88, Err.NUMBER, told);
            told[place] = 32768;
            function(88, Err.NUMBER, told);
            told[place] = 4294967296.0;
            function(88, Err.NUMBER, told);
            wantsWhole(88, place, 1, 2, 3);
        }
    }

    private static void isTime(double day, int hour, int minute, int second) {
        function(89, hour, day);
        function(90, minute, day);
        function(91, second, day);
    }

    private static void f89HourF90MinuteF91Second() {
        isTime(0, 0, 0, 0);
        isTime(0.5, 12, 0, 0);
        isTime(7.75, 18, 0, 0);
        isTime(1.0 / 86400, 0, 0, 1);
        isTime(0.49 / 86400, 0, 0, 0);
        isTime(0.51 / 86400, 0, 0, 1);
        isTime(86399.0 / 86400, 23, 59, 59);
        isTime(86399.4 / 86400, 23, 59, 59);
        isTime(86399.6 / 86400, 0, 0, 0);
        isTime(12 + (13 * 3600 + 14 * 60 + 15) / 86400.0, 13, 14, 15);
        isTime(1e300, 0, 0, 0);
        isTime(4503599627370495.5, 12, 0, 0);
        for (int number = 89; number <= 91; number++) {
            function(number, Err.NUMBER, -0.5);
            function(number, Err.NUMBER, -1);
            function(number, Err.NUMBER, -1e300);
            function(number, 0, BLANK);
            wantsNumber(number, 0, 0.5);
        }
    }
}

import java.time.LocalDate;

/** The functions 81 to 91, sentence by sentence, where the document names a boundary. */
public final class EdgesOfDaysTest extends Bench {
    private static final int LAST = 2958465;
    private static final double LEAST = 4.9E-324;
    private static final double GREATEST = 1.7976931348623157E308;

    private EdgesOfDaysTest() {
    }

    public static void main(String[] args) {
        dateFirstAndLast();
        dateYears();
        dateNumbers();
        dateMonthsBeyond();
        dateDaysBeyond();
        dateMonthsBefore();
        leapYears();
        everyMonth();
        partsOfFirstDays();
        partsFirstAndLast();
        weekdays();
        weekdayManner();
        edateFirstAndLast();
        edateMonths();
        edateFewerDays();
        eomonth();
        time();
        hoursFirst();
        hoursRounded();
        end("EdgesOfDaysTest");
    }

    /** From March 1900 on. */
    private static int dayOf(int year, int month, int day) {
        return (int) (LocalDate.of(year, month, day).toEpochDay() - LocalDate.of(1899, 12, 30).toEpochDay());
    }

    private static void dateFirstAndLast() {
        sentence("81 DATE: the DAY; NUMBER if it is not 0 .. 2958465");
        function(81, 0, 1900, 1, 0);
        function(81, Err.NUMBER, 1900, 1, -1);
        function(81, Err.NUMBER, 1900, 1, -32768);
        function(81, 0, 1900, 2, -31);
        function(81, Err.NUMBER, 1900, 2, -32);
        function(81, LAST, 9999, 12, 31);
        function(81, Err.NUMBER, 9999, 12, 32);
        function(81, LAST, 10000, 1, 0);
        function(81, Err.NUMBER, 10000, 1, 1);
        function(81, LAST, 9998, 24, 31);
        function(81, Err.NUMBER, 9998, 25, 1);
        function(81, LAST, 9000, 999 * 12 + 12, 31);
        sentence("Days count from 1 for the first of January 1900; 60 is a 29th of February 1900 that there is not");
        function(81, 1, 1900, 1, 1);
        function(81, 31, 1900, 1, 31);
        function(81, 32, 1900, 1, 32);
        function(81, 32, 1900, 2, 1);
        function(81, 59, 1900, 2, 28);
        function(81, 60, 1900, 2, 29);
        function(81, 61, 1900, 2, 30);
        function(81, 61, 1900, 3, 1);
        function(81, 60, 1900, 3, 0);
        function(81, 59, 1900, 3, -1);
        function(81, 366, 1900, 12, 31);
        function(81, 367, 1901, 1, 1);
    }

    private static void dateYears() {
        sentence("a year (below 1900 with 1900 added)");
        function(81, 1, 0, 1, 1);
        function(81, 1, 1900, 1, 1);
        function(81, 367, 1, 1, 1);
        function(81, 367, 1901, 1, 1);
        function(81, dayOf(3799, 12, 31), 1899, 12, 31);
        function(81, dayOf(3799, 12, 31), 1899.999, 12, 31);
        function(81, dayOf(1999, 1, 1), 99, 1, 1);
        function(81, Err.NUMBER, -1, 1, 1);
        function(81, Err.NUMBER, -1, 12, 31);
        function(81, 1, -1, 13, 1);
        function(81, 1, -2, 25, 1);
        function(81, 1, -0.999, 1, 1);
        function(81, Err.NUMBER, 32767, 1, 1);
        function(81, Err.NUMBER, -32768, 1, 1);
    }

    private static void dateNumbers() {
        sentence("DATE: NUMBER if a number is not -32768 .. 32767");
        for (double wrong : new double[] {32768, -32769, 65536, 4294967297.0, -4294967295.0, 9007199254740991.0}) {
            function(81, Err.NUMBER, wrong, 1, 1);
            function(81, Err.NUMBER, 2000, wrong, 1);
            function(81, Err.NUMBER, 2000, 1, wrong);
        }
        function(81, dayOf(4730, 7, 1), 2000, 32767, 1);
        function(81, dayOf(4730, 7, 1), 2000, 32767.999, 1);
        function(81, dayOf(2000, 1, 1) + 32766, 2000, 1, 32767);
        function(81, dayOf(2000, 1, 1) - 32769, 2000, 1, -32768);
        function(81, dayOf(2000, 1, 1) - 32769, 2000, 1, -32768.999);
        function(81, dayOf(6269, 4, 1), 9000, -32768, 1);
        function(81, Err.NUMBER, 9000, -32769, 1);
    }

    private static void dateMonthsBeyond() {
        sentence("DATE: months beyond count on into years (12 are a year)");
        function(81, dayOf(2000, 12, 1), 2000, 12, 1);
        function(81, dayOf(2001, 1, 1), 2000, 13, 1);
        function(81, dayOf(2001, 12, 1), 2000, 24, 1);
        function(81, dayOf(2002, 1, 1), 2000, 25, 1);
        function(81, dayOf(2000, 1, 1), 2000, 1, 1);
        function(81, dayOf(1999, 12, 1), 2000, 0, 1);
        function(81, dayOf(1999, 1, 1), 2000, -11, 1);
        function(81, dayOf(1998, 12, 1), 2000, -12, 1);
        function(81, dayOf(2000, 2, 29), 2000, 2, 29);
        function(81, dayOf(2000, 2, 29), 1999, 14, 29);
        function(81, dayOf(2001, 3, 1), 2001, 2, 29);
    }

    private static void dateDaysBeyond() {
        sentence("DATE: then the day is the first of that month's day and day less 1");
        function(81, dayOf(2000, 2, 1), 2000, 1, 32);
        function(81, dayOf(2000, 3, 1), 2000, 2, 30);
        function(81, dayOf(1999, 12, 31), 2000, 1, 0);
        function(81, dayOf(1999, 12, 30), 2000, 1, -1);
        function(81, dayOf(2000, 12, 31), 2000, 1, 366);
        function(81, dayOf(2001, 1, 1), 2000, 1, 367);
        function(81, 62, 1900, 1, 62);
        function(81, 59, 1900, 4, -32);
    }

    private static void dateMonthsBefore() {
        sentence("a month before January of 1900 is NUMBER, whatever the day");
        for (int day : new int[] {1, 31, 32, 366, 32767, 0, -1}) {
            function(81, Err.NUMBER, 1900, 0, day);
            function(81, Err.NUMBER, 1900, -1, day);
            function(81, Err.NUMBER, 1901, -12, day);
            function(81, Err.NUMBER, -1, 12, day);
            function(81, Err.NUMBER, 1900, -32768, day);
        }
        function(81, 1, 1901, -11, 1);
        function(81, 31, 1901, -11, 31);
        function(81, 0, 1901, -11, 0);
    }

    private static void isDate(double day, int year, int month, int ofMonth) {
        function(82, year, day);
        function(83, month, day);
        function(84, ofMonth, day);
        if (day >= 0 && day <= LAST && ofMonth > 0) {
            function(81, (int) day, year, month, ofMonth);
        }
    }

    private static void leapYears() {
        sentence("YEAR, MONTH, DAY: each month's first and last day");
        for (int year : new int[] {1901, 1903, 1904, 1999, 2000, 2001, 2004, 2023, 2024, 2099, 2100, 2101, 2400, 3000, 9996, 9999}) {
            for (int month = 1; month <= 12; month++) {
                int length = LocalDate.of(year, month, 1).lengthOfMonth();
                isDate(dayOf(year, month, 1), year, month, 1);
                isDate(dayOf(year, month, length), year, month, length);
            }
        }
        int day = 1;
        for (int month = 1; month <= 12; month++) {
            int length = LocalDate.of(1904, month, 1).lengthOfMonth();
            isDate(day, 1900, month, 1);
            isDate(day + length - 1, 1900, month, length);
            day += length;
        }
    }

    /** By a count of its own: 1900 has a 29th of February here, and the other years are as they are. */
    private static void everyMonth() {
        sentence("YEAR, MONTH, DAY: each month of all years");
        int[] lengths = {31, 28, 31, 30, 31, 30, 31, 31, 30, 31, 30, 31};
        int first = 1;
        for (int year = 1900; year <= 9999; year++) {
            boolean leap = year == 1900 || year % 4 == 0 && (year % 100 != 0 || year % 400 == 0);
            for (int month = 1; month <= 12; month++) {
                int length = lengths[month - 1] + (leap && month == 2 ? 1 : 0);
                hasParts(first, year, month, 1);
                hasParts(first + length - 1, year, month, length);
                first += length;
            }
        }
        check("the day behind the last", first, LAST + 1);
    }

    private static void hasParts(int day, int year, int month, int ofMonth) {
        Counted x = new Counted();
        int[] due = {year, month, ofMonth};
        for (int part = 0; part < 3; part++) {
            x.number(day);
            x.call(82 + part, 1);
            check("function " + (82 + part) + " of " + day, x.value(0, 0, 0), due[part]);
        }
        x.call(81, 3);
        check("DATE of what they answered", x.value(0, 0, 0), day);
    }

    private static void partsOfFirstDays() {
        sentence("0 is the 0th of January 1900");
        isDate(0, 1900, 1, 0);
        isDate(LEAST, 1900, 1, 0);
        isDate(0.999, 1900, 1, 0);
        isDate(1, 1900, 1, 1);
        isDate(59.999, 1900, 2, 28);
        isDate(60, 1900, 2, 29);
        isDate(60.999, 1900, 2, 29);
        isDate(61, 1900, 3, 1);
    }

    private static void partsFirstAndLast() {
        sentence("82 YEAR, 83 MONTH, 84 DAY, 85 WEEKDAY: of the day INT(n), 0 .. 2958465 (NUMBER if not)");
        isDate(LAST, 9999, 12, 31);
        isDate(LAST + 0.999, 9999, 12, 31);
        isDate(LAST - 1, 9999, 12, 30);
        function(85, 7, 0);
        function(85, 6, LAST + 0.999);
        for (int number = 82; number <= 85; number++) {
            for (double wrong : new double[] {-LEAST, -0.001, -1, -GREATEST, LAST + 1, LAST + 1.5, LAST + 2, 4294967296.0, 4294967297.0,
                9007199254740992.0, GREATEST}) {
                function(number, Err.NUMBER, wrong);
            }
            function(number, number == 82 ? 1900 : number == 83 ? 1 : number == 84 ? 0 : 7, BLANK);
        }
    }

    private static void weekdays() {
        sentence("1 Sunday .. 7 (i = 1, or without), 1 Monday .. 7 (2), 0 Monday .. 6 (3); day 1 is a Sunday");
        for (int day = 0; day <= 70; day++) {
            int sunday = (day + 6) % 7;
            function(85, sunday + 1, day);
            function(85, sunday + 1, day, 1);
            int monday = (day + 5) % 7;
            function(85, monday + 1, day, 2);
            function(85, monday, day, 3);
        }
        LocalDate date = LocalDate.of(2026, 11, 19);
        function(85, date.getDayOfWeek().getValue(), dayOf(2026, 11, 19), 2);
        function(85, LocalDate.of(9999, 12, 31).getDayOfWeek().getValue(), LAST, 2);
    }

    private static void weekdayManner() {
        sentence("WEEKDAY: NUMBER for other i");
        for (Object manner : new Object[] {0, 0.999, -0.999, 4, 5, -1, -2, 11, 16, 4294967297.0, -4294967295.0, BLANK, false, 1e15}) {
            function(85, Err.NUMBER, 1, manner);
        }
        function(85, 1, 1, 1.999);
        function(85, 7, 1, 2.999);
        function(85, 6, 1, 3.999);
        function(85, 1, 1, true);
        function(85, Err.NUMBER, -1, 1);
        function(85, Err.NUMBER, LAST + 1, 3);
    }

    private static void edateFirstAndLast() {
        sentence("86 EDATE, 87 EOMONTH: of the day INT(n) likewise (NUMBER if not)");
        for (int number = 86; number <= 87; number++) {
            for (double wrong : new double[] {-LEAST, -1, -GREATEST, LAST + 1, LAST + 1.5, 4294967296.0, GREATEST}) {
                function(number, Err.NUMBER, wrong, 0);
                function(number, Err.NUMBER, wrong, 1);
                function(number, Err.NUMBER, wrong, -1);
            }
            function(number, number == 86 ? LAST : LAST, LAST + 0.999, 0);
            function(number, number == 86 ? 0 : 31, 0.999, 0);
        }
        sentence("day 0 is the 0th of January 1900, the 0th of a month being the day before its first");
        function(86, 0, 0, 0);
        function(86, 31, 0, 1);
        function(86, 60, 0, 2);
        function(86, 91, 0, 3);
        function(86, 366, 0, 12);
        function(86, Err.NUMBER, 0, -1);
        function(87, 31, 0, 0);
        function(87, 60, 0, 1);
        function(87, Err.NUMBER, 0, -1);
    }

    private static void edateMonths() {
        sentence("NUMBER unless i is -32768 .. 32767, and as for DATE");
        for (int number = 86; number <= 87; number++) {
            for (double wrong : new double[] {32768, -32769, 65536, -65536, 4294967296.0, 4294967297.0, 9007199254740991.0}) {
                function(number, Err.NUMBER, dayOf(2000, 1, 1), wrong);
                function(number, Err.NUMBER, dayOf(9000, 1, 1), wrong);
            }
            function(number, Err.NUMBER, LAST, 1);
            function(number, Err.NUMBER, 1, -1);
            function(number, Err.NUMBER, 31, -1);
            function(number, Err.NUMBER, 32, -2);
            function(number, Err.NUMBER, dayOf(9999, 12, 1), 1);
        }
        function(86, dayOf(4730, 8, 1), dayOf(2000, 1, 1), 32767);
        function(86, dayOf(6269, 5, 1), dayOf(9000, 1, 1), -32768);
        function(87, dayOf(4730, 8, 31), dayOf(2000, 1, 1), 32767.999);
        function(87, dayOf(6269, 5, 31), dayOf(9000, 1, 1), -32768.999);
        function(86, LAST, LAST, 0);
        function(86, LAST, dayOf(9999, 1, 31), 11);
        function(87, LAST, dayOf(9999, 12, 1), 0);
        function(86, 1, 32, -1);
        function(86, 31, dayOf(1901, 1, 31), -12);
        function(87, 31, dayOf(1901, 1, 1), -12);
        function(86, Err.NUMBER, dayOf(1901, 1, 1), -13);
        function(87, Err.NUMBER, dayOf(1901, 1, 1), -13);
        function(86, dayOf(2000, 1, 1), dayOf(2000, 1, 1), 0.999);
        function(86, dayOf(2000, 1, 1), dayOf(2000, 1, 1), -0.999);
    }

    private static void edateFewerDays() {
        sentence("EDATE: the same day so many months on (the last one of that month, where there are fewer)");
        int[] lengths = {31, 28, 31, 30, 31, 30, 31, 31, 30, 31, 30, 31};
        for (int on = 0; on < 12; on++) {
            for (int day = 28; day <= 31; day++) {
                function(86, dayOf(2023, on + 1, Math.min(day, lengths[on])), dayOf(2023, 1, day), on);
            }
        }
        function(86, dayOf(2024, 2, 29), dayOf(2024, 1, 29), 1);
        function(86, dayOf(2024, 2, 29), dayOf(2024, 1, 31), 1);
        function(86, dayOf(2023, 2, 28), dayOf(2024, 2, 29), -12);
        function(86, dayOf(2024, 2, 28), dayOf(2023, 2, 28), 12);
        function(86, dayOf(2023, 12, 31), dayOf(2024, 12, 31), -12);
        function(86, dayOf(2023, 11, 30), dayOf(2024, 12, 31), -13);
        function(86, 60, 31, 1);
        function(86, 60, 29, 1);
        function(86, 60, 30, 1);
        function(86, 59, 28, 1);
        function(86, 29, 60, -1);
        function(86, dayOf(1901, 2, 28), 60, 12);
        function(86, dayOf(1904, 2, 29), 60, 48);
    }

    private static void eomonth() {
        sentence("EOMONTH: or the last day of that month");
        int[] lengths = {31, 28, 31, 30, 31, 30, 31, 31, 30, 31, 30, 31};
        for (int on = -11; on < 12; on++) {
            int place = Math.floorMod(on, 12);
            int year = on < 0 ? 2022 : 2023;
            function(87, dayOf(year, place + 1, lengths[place]), dayOf(2023, 1, 1), on);
            function(87, dayOf(year, place + 1, lengths[place]), dayOf(2023, 1, 31), on);
        }
        function(87, dayOf(2024, 2, 29), dayOf(2024, 2, 1), 0);
        function(87, 60, 32, 0);
        function(87, 60, 60, 0);
        function(87, 60, 61, -1);
        function(87, 31, 60, -1);
        function(87, 91, 60, 1);
    }

    private static void time() {
        sentence("88 TIME: 0 .. 32767 each (NUMBER if not)");
        for (int place = 0; place < 3; place++) {
            for (double wrong : new double[] {-1, -1.5, 32768, 32769, 65536, 4294967296.0, -4294967296.0, 9007199254740991.0}) {
                Object[] told = {1, 2, 3};
                told[place] = wrong;
                function(88, Err.NUMBER, told);
            }
            int[] parts = {3600, 60, 1};
            for (double right : new double[] {0, -0.999, 32767, 32767.999}) {
                Object[] told = {0, 0, 0};
                told[place] = right;
                function(88, (long) right * parts[place] % 86400 / 86400.0, told);
            }
        }
        sentence("with s being 3600 * h + 60 * m + second, (s less all whole 86400) / 86400");
        function(88, 0, 0, 0, 0);
        function(88, 86399 / 86400.0, 23, 59, 59);
        function(88, 0, 23, 59, 60);
        function(88, 0, 24, 0, 0);
        function(88, 1 / 86400.0, 24, 0, 1);
        function(88, 0, 48, 0, 0);
        function(88, 86399 / 86400.0, 47, 59, 59);
        function(88, 0, 0, 1440, 0);
        function(88, 32767 / 86400.0, 0, 0, 32767);
    }

    private static void isTime(double n, int hour, int minute, int second) {
        function(89, hour, n);
        function(90, minute, n);
        function(91, second, n);
    }

    private static void hoursFirst() {
        sentence("89 HOUR, 90 MINUTE, 91 SECOND: n not below 0 (NUMBER)");
        for (int number = 89; number <= 91; number++) {
            for (double wrong : new double[] {-LEAST, -0.5, -1, -GREATEST}) {
                function(number, Err.NUMBER, wrong);
            }
            function(number, 0, 0);
            function(number, 0, -0.0);
            function(number, 0, LEAST);
            function(number, 0, BLANK);
        }
        isTime(GREATEST, 0, 0, 0);
        isTime(LAST + 1.5, 12, 0, 0);
        isTime(4294967296.25, 6, 0, 0);
        isTime(9007199254740992.0, 0, 0, 0);
    }

    private static void hoursRounded() {
        sentence("with s being INT((n - INT(n)) * 86400 + 0.5) less 86400 if that is all of it");
        isTime(0.4999 / 86400, 0, 0, 0);
        isTime(0.5 / 86400, 0, 0, 1);
        isTime(86398.5 / 86400, 23, 59, 59);
        isTime(86399.4999 / 86400, 23, 59, 59);
        isTime(86399.5001 / 86400, 0, 0, 0);
        isTime(0.9999999999999999, 0, 0, 0);
        isTime(1, 0, 0, 0);
        isTime(1.9999999999999998, 0, 0, 0);
        sentence("s / 3600, s / 60 modulo 60, s modulo 60, each cut off");
        int[] seconds = {59, 60, 61, 3599, 3600, 3601, 43199, 43200, 82799, 82800, 86340, 86399};
        for (int s : seconds) {
            isTime(s / 86400.0, s / 3600, s / 60 % 60, s % 60);
            isTime(s / 86400.0 + 3, s / 3600, s / 60 % 60, s % 60);
        }
    }
}

/** Promises 17 and 18: sure, odds. */
public final class ClocksTest {
    private static final Check CHECK = new Check("ClocksTest");

    public static void main(String[] args) {
        exactClock();
        wrongClock();
        leastTerms();
        wrongNumbers();
        CHECK.end();
    }

    private static void exactClock() {
        HourWell x = Check.told("p;p;g1 22 4;");
        for (int hour = 0; hour < 24; hour++) {
            int open = hour >= 22 || hour < 2 ? 1 : 0;
            CHECK.due("sure(1, " + hour + ")", x.sure(1, hour), open);
            CHECK.due("odds(1, " + hour + ", 0)", x.odds(1, hour, 0), open);
            CHECK.due("odds(1, " + hour + ", 1)", x.odds(1, hour, 1), 1);
            CHECK.due("sure(0, " + hour + ")", x.sure(0, hour), 1);
        }
    }

    private static void wrongClock() {
        HourWell x = Check.told("p;p;p;g1 22 5;g2 3 24;o2;");
        for (int hour = 0; hour < 24; hour++) {
            CHECK.due("sure(1, " + hour + ") by 2", x.sure(1, hour), hour == 0 ? 1 : 0);
            CHECK.due("sure(2, " + hour + ") by 2", x.sure(2, hour), 1);
            CHECK.due("odds(2, " + hour + ", 1) by 2", x.odds(2, hour, 1), 1);
        }
        int[] uppers = {1, 4, 3, 2, 1, 0, 0};
        int[] lowers = {1, 5, 5, 5, 5, 1, 1};
        for (int hour = 0; hour < uppers.length; hour++) {
            CHECK.due("odds(1, " + hour + ", 0) by 2", x.odds(1, hour, 0), uppers[hour]);
            CHECK.due("odds(1, " + hour + ", 1) by 2", x.odds(1, hour, 1), lowers[hour]);
        }
        CHECK.due("odds(1, 23, 0) by 2", x.odds(1, 23, 0), 4);
        CHECK.due("odds(1, 20, 0) by 2", x.odds(1, 20, 0), 1);
        CHECK.due("odds(1, 19, 0) by 2", x.odds(1, 19, 0), 0);
        CHECK.due("the hour that it is does not matter", afterWaits(x), 1);
    }

    private static int afterWaits(HourWell x) {
        Check.waits(x, 5);
        return x.sure(1, 0);
    }

    private static void leastTerms() {
        HourWell x = Check.told("p;p;g1 0 3;o4;");
        CHECK.due("three of nine, upper", x.odds(1, 1, 0), 1);
        CHECK.due("three of nine, lower", x.odds(1, 1, 1), 3);
        HourWell y = Check.told("p;p;g1 0 12;o6;");
        CHECK.due("twelve of thirteen, upper", y.odds(1, 6, 0), 12);
        CHECK.due("twelve of thirteen, lower", y.odds(1, 6, 1), 13);
        HourWell z = Check.told("p;p;g1 0 6;o4;");
        CHECK.due("six of nine, upper", z.odds(1, 3, 0), 2);
        CHECK.due("six of nine, lower", z.odds(1, 3, 1), 3);
        CHECK.due("none of nine, lower", z.odds(1, 15, 1), 1);
        HourWell home = Check.told("p;o6;");
        CHECK.due("home, upper", home.odds(0, 0, 0), 1);
        CHECK.due("home, lower", home.odds(0, 0, 1), 1);
        CHECK.due("home, sure", home.sure(0, 23), 1);
    }

    private static void wrongNumbers() {
        HourWell x = Check.told("p;p;g1 0 3;o4;");
        int[][] wrong = {{-1, 0}, {2, 0}, {0, -1}, {0, 24}, {Integer.MAX_VALUE, Integer.MIN_VALUE}};
        for (int[] row : wrong) {
            CHECK.due("sure(" + row[0] + ", " + row[1] + ")", x.sure(row[0], row[1]), -1);
            CHECK.due("odds(" + row[0] + ", " + row[1] + ", 0)", x.odds(row[0], row[1], 0), -1);
        }
        CHECK.due("odds(0, 0, -1)", x.odds(0, 0, -1), -1);
        CHECK.due("odds(0, 0, 2)", x.odds(0, 0, 2), -1);
        HourWell none = new HourWell();
        CHECK.due("no places: sure(0, 0)", none.sure(0, 0), -1);
        CHECK.due("no places: odds(0, 0, 0)", none.odds(0, 0, 0), -1);
    }
}

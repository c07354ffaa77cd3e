/** Promises 13 to 16: soonest, latest, without, robbed. */
public final class WaysTest {
    private static final Check CHECK = new Check("WaysTest");
    private static final int NONE = -9;

    public static void main(String[] args) {
        wrongNumbers();
        rows();
        order();
        longWays();
        fromNow();
        latest();
        without();
        robbed();
        CHECK.end();
    }

    /** Asks for the hours, each step, and that there is no step more. */
    private static void way(String told, HourWell x, int t, int hours, int... steps) {
        CHECK.due(told + ": soonest(" + t + ", -1)", x.soonest(t, -1), hours);
        for (int i = 0; i < steps.length && i <= 99; i++) {
            CHECK.due(told + ": soonest(" + t + ", " + i + ")", x.soonest(t, i), steps[i]);
        }
        for (int i = steps.length; i <= 99; i += 7) {
            CHECK.due(told + ": soonest(" + t + ", " + i + ")", x.soonest(t, i), NONE);
        }
    }

    private static void wrongNumbers() {
        HourWell x = Check.told("p;p;r0 1 1;h1 0 9;");
        for (int t : new int[] {-1, 5, 9, Integer.MIN_VALUE, Integer.MAX_VALUE}) {
            CHECK.due("soonest(" + t + ", -1)", x.soonest(t, -1), -1);
            CHECK.due("latest(" + t + ", 0)", x.latest(t, 0), -1);
            CHECK.due("without(" + t + ", 0)", x.without(t, 0), -1);
            CHECK.due("robbed(" + t + ", 0)", x.robbed(t, 0), -1);
        }
        CHECK.due("soonest(0, -2)", x.soonest(0, -2), -1);
        CHECK.due("soonest(0, 99)", x.soonest(0, 99), NONE);
        CHECK.due("soonest(0, 100)", x.soonest(0, 100), -1);
        CHECK.due("latest(0, -1)", x.latest(0, -1), -1);
        CHECK.due("latest(0, 61)", x.latest(0, 61), -1);
        CHECK.due("without(0, -1)", x.without(0, -1), -1);
        CHECK.due("without(0, 2)", x.without(0, 2), -1);
        CHECK.due("robbed(0, -1)", x.robbed(0, -1), -1);
        CHECK.due("robbed(0, 2)", x.robbed(0, 2), -1);
        HourWell none = new HourWell();
        CHECK.due("no places: soonest(0, -1)", none.soonest(0, -1), NONE);
        CHECK.due("no places: soonest(4, 0)", none.soonest(4, 0), NONE);
        CHECK.due("no places: soonest(4, 100)", none.soonest(4, 100), -1);
        CHECK.due("no places: latest(4, 60)", none.latest(4, 60), NONE);
        CHECK.due("no places: without(4, 1)", none.without(4, 1), 0);
        CHECK.due("no places: robbed(4, 0)", none.robbed(4, 0), -1);
    }

    private static void rows() {
        way("no host", Check.told("p;"), 0, NONE);
        way("a host at home", Check.told("p;h0 0 9;"), 0, 0, 11);
        way("a chain of five", Check.told("p;h0 4 3;h0 3 2;h0 2 1;h0 1 0;h0 0 9;"), 4, 0, 15, 14, 13, 12, 11);
        way("there and back", Check.told("p;p;r0 1 4;h1 2 9;"), 2, 8, 1, 11, 1);
        way("a gate", Check.told("p;p;r0 1 4;h1 2 9;g1 6 1;"), 2, 10, 0, 0, 1, 11, 1);
        way("bread for the lion", Check.told("p;p;r0 1 1;h1 2 9;h0 0 9;l1 0;"), 2, 2, 12, 1, 11, 1);
        way("no bread", Check.told("p;p;r0 1 1;h1 2 9;l1 0;"), 2, NONE);
        way("what the lion takes is gone", Check.told("p;p;p;r0 1 1;r1 2 1;r2 0 1;h1 0 9;l2 0;"), 0, 2, 1, 11, 1);
        allThings();
        way("two lions on the way, bread of each", Check.told("p;p;p;r0 1 1;r1 2 1;l1 0;l2 0;h0 0 9;h1 0 9;h2 1 9;h2 0 9;"),
            1, 4, 11, 1, 12, 2, 13, 14, 2, 1);
        aRowOfAsksAheadOfALion();
    }

    /**
     * Looked at from home backward, each of these hosts is of use at once (the lion, the thing, what
     * it is given for), and yet the host of the bread is of use a second time, behind the others.
     */
    private static void aRowOfAsksAheadOfALion() {
        HourWell x = Check.told("p;p;p;r0 1 9;r1 2 1;r2 0 1;h1 2 1;h1 0 9;h1 1 0;l2 0;");
        way("a row of asks ahead of a lion", x, 2, 11, 1, 12, 13, 11, 2, 3);
        CHECK.due("a row of asks ahead of a lion: latest, an hour less", x.latest(2, 10), NONE);
        CHECK.due("a row of asks ahead of a lion: latest", x.latest(2, 11), 0);
        CHECK.due("a row of asks ahead of a lion: latest, an hour more", x.latest(2, 12), 1);
        // with nothing for the lion he gets there by road 0 alone; home he could go by it, too
        CHECK.due("a row of asks ahead of a lion: roads", x.without(2, 0), 1);
        CHECK.due("a row of asks ahead of a lion: hosts", x.without(2, 1), 7);
        CHECK.due("a row of asks ahead of a lion: robbed", x.robbed(2, 2), 2);
    }

    /** With all five things, by a short way on which a lion takes one, or by a long one. */
    private static void allThings() {
        for (int taken = 0; taken < 5; taken++) {
            HourWell x = Check.told("p;p;p;r0 2 9;r2 1 1;r1 0 1;h2 0 9;h2 1 9;h2 2 9;h2 3 9;h2 4 9;l1 " + taken + ";");
            x.walks(0);
            for (int h = 0; h < 5; h++) x.asks(h);
            for (int t = 0; t < 5; t++) {
                CHECK.due("the lion takes " + taken + ": soonest(" + t + ", -1)", x.soonest(t, -1), t == taken ? 9 : 2);
                CHECK.due("the lion takes " + taken + ": soonest(" + t + ", 0)", x.soonest(t, 0), t == taken ? 1 : 2);
                CHECK.due("the lion takes " + taken + ": latest(" + t + ", 20)", x.latest(t, 20), t == taken ? 11 : 18);
            }
        }
    }

    private static void order() {
        way("the lesser host first, though it is idle",
            Check.told("p;h0 1 9;h0 0 9;"), 0, 0, 11, 12);
        way("a row's beginning is ahead of it",
            Check.told("p;h0 0 9;h0 1 9;"), 0, 0, 11);
        way("the lesser road of two alike", Check.told("p;p;r1 0 2;r0 1 2;h1 0 9;"), 0, 4, 1, 11, 1);
        way("the shorter road of two", Check.told("p;p;r1 0 2;r0 1 1;h1 0 9;"), 0, 2, 2, 11, 2);
        way("he walks about rather than asks first",
            Check.told("p;p;r0 1 1;h0 1 9;h1 0 9;g1 3 1;"), 0, 4, 0, 0, 1, 12, 1);
        way("waits come first, walks ahead of asks",
            Check.told("p;p;p;r0 1 1;r0 2 1;h0 3 9;h2 0 3;g2 4 1;"), 0, 5, 0, 0, 0, 11, 2, 12, 2);
        way("a detour is ahead of an ask when he must wait anyway",
            Check.told("p;p;p;r0 2 1;r0 1 1;h0 3 9;h2 0 3;g2 2 1;g1 1 1;h1 3 9;"), 0, 3, 0, 11, 1, 12, 1);
    }

    private static void longWays() {
        String chain = "p;p;p;p;r0 1 9;r1 2 9;r2 3 9;h3 0 9;g3 ";
        HourWell most = Check.told(chain + "9 1;");
        CHECK.due("sixty hours", most.soonest(0, -1), 60);
        CHECK.due("sixty hours: the sixth step waits", most.soonest(0, 5), 0);
        CHECK.due("sixty hours: the seventh walks", most.soonest(0, 6), 1);
        CHECK.due("sixty hours: latest", most.latest(0, 60), 6);
        CHECK.due("sixty hours: latest, an hour less", most.latest(0, 59), NONE);
        CHECK.due("sixty hours: without", most.without(0, 0), 7);
        HourWell more = Check.told(chain + "10 1;");
        way("sixty-one hours are too many", more, 0, NONE);
        CHECK.due("sixty-one hours: without", more.without(0, 0), 0);
        CHECK.due("sixty-one hours: without hosts", more.without(0, 1), 0);
        CHECK.due("sixty-one hours: robbed", more.robbed(0, 0), NONE);
        more.waits();
        CHECK.due("an hour later sixty are enough", more.soonest(0, -1), 60);
    }

    private static void fromNow() {
        HourWell x = Check.told("p;p;r0 1 1;h1 0 9;h1 1 9;l1 1;h0 1 9;");
        way("at first", x, 0, 2, 13, 1, 11, 1);
        x.asks(2);
        way("with bread", x, 0, 2, 1, 11, 1);
        x.walks(0);
        way("at the host's", x, 0, 1, 11, 1);
        x.asks(0);
        way("having it", x, 0, 1, 1);
        x.walks(0);
        way("home with it", x, 0, 0);
        CHECK.due("nothing is changed: the hour", x.now(1), 2);
        CHECK.due("nothing is changed: what may be undone", x.count(6), 4);
        theKnownWayGrowsOld();
        HourWell late = Check.told("p;p;r0 1 9;h1 0 9;g1 1 1;");
        Check.waits(late, 9999);
        CHECK.due("beyond 9999", late.soonest(0, -1), 19);
        CHECK.due("beyond 9999: latest", late.latest(0, 60), 25);
        CHECK.due("beyond 9999: without", late.without(0, 0), 1);
        CHECK.due("beyond 9999: robbed", late.robbed(0, 1), 0);
    }

    /** A way is found anew when the place, the hour, the things or the tale are others. */
    private static void theKnownWayGrowsOld() {
        HourWell x = Check.told("p;p;r0 1 1;h1 0 9;g1 2 1;h0 1 9;h1 2 1;");
        CHECK.due("at hour 0", x.soonest(0, -1), 3);
        x.waits();
        CHECK.due("at hour 1", x.soonest(0, -1), 2);
        x.undo();
        CHECK.due("at hour 0 again", x.soonest(0, -1), 3);
        x.waits();
        x.walks(0);
        x.keep(0);
        CHECK.due("at the host's", x.soonest(0, -1), 1);
        x.undo();
        x.waits();
        CHECK.due("at home in the same hour", x.soonest(0, -1), 25);
        x.back(0);
        CHECK.due("at the host's again", x.soonest(0, -1), 1);
        CHECK.due("the thing of a host who asks", x.soonest(2, -1), 25);
        x.asks(0);
        CHECK.due("having it", x.soonest(0, 0), 1);
        x.undo();
        CHECK.due("having it no more", x.soonest(0, 0), 11);
        Check.tell(x, "p;");
        CHECK.due("an empty tale", x.soonest(0, -1), NONE);
        Check.tell(x, "p;h0 0 9;");
        CHECK.due("another tale", x.soonest(0, -1), 0);
        Check.tell(x, "p;p;r0 1 3;h1 0 9;");
        CHECK.due("another tale again", x.soonest(0, -1), 6);
        CHECK.due("latest leaves the way alone", x.latest(0, 6), 0);
        CHECK.due("its step", x.soonest(0, 1), 11);
        CHECK.due("without leaves the way alone", x.without(0, 0), 1);
        CHECK.due("its last step", x.soonest(0, 2), 1);
        CHECK.due("its hours", x.soonest(0, -1), 6);
        Check.tell(x, "x");
        CHECK.due("a fault leaves the way alone", x.soonest(0, -1), 6);
    }

    private static void latest() {
        HourWell x = Check.told("p;p;r0 1 2;h1 0 9;g1 5 2;");
        int[][] want = {{6, NONE}, {7, 3}, {8, 4}, {30, 4}, {31, 27}, {32, 28}, {54, 28}, {55, 51}, {56, 52}, {60, 52}};
        for (int[] row : want) CHECK.due("latest(0, " + row[0] + ")", x.latest(0, row[0]), row[1]);
        CHECK.due("latest(0, 0)", x.latest(0, 0), NONE);
        HourWell y = Check.told("p;h0 0 9;");
        CHECK.due("waits, then asks at home", y.latest(0, 7), 7);
        CHECK.due("at once", y.latest(0, 0), 0);
        HourWell z = Check.told("p;p;r0 1 2;h0 0 9;");
        z.asks(0);
        z.walks(0);
        CHECK.due("away from home, having it", z.latest(0, 10), 8);
        CHECK.due("away from home, too far", z.latest(0, 1), NONE);
        CHECK.due("never", z.latest(1, 60), NONE);
    }

    private static void without() {
        HourWell x = Check.told("p;p;p;r0 1 1;r1 2 1;r1 2 5;h2 0 1;h1 1 9;h0 1 9;h0 2 9;");
        CHECK.due("roads", x.without(0, 0), 1);
        CHECK.due("hosts", x.without(0, 1), 1);
        CHECK.due("at home: roads", x.without(2, 0), 0);
        CHECK.due("at home: hosts", x.without(2, 1), 8);
        CHECK.due("none at all", x.without(3, 0), 0);
        CHECK.due("none at all: hosts", x.without(3, 1), 0);
        x.asks(3);
        CHECK.due("he has it", x.without(2, 1), 0);
        HourWell two = Check.told("p;p;p;r0 1 1;r1 2 1;h2 0 1;h1 1 9;");
        CHECK.due("two roads", two.without(0, 0), 3);
        CHECK.due("two hosts", two.without(0, 1), 3);
        HourWell tooLong = Check.told("p;p;p;p;p;r0 1 9;r1 2 9;r2 3 9;r3 4 4;r0 4 1;h4 0 9;");
        CHECK.due("without road 4 it takes 62 hours", tooLong.without(0, 0), 16);
        HourWell justSo = Check.told("p;p;p;p;p;r0 1 9;r1 2 9;r2 3 9;r3 4 3;r0 4 1;h4 0 9;");
        CHECK.due("without road 4 it takes 60 hours", justSo.without(0, 0), 0);
        CHECK.due("the way is as before", justSo.soonest(0, -1), 2);
    }

    private static void robbed() {
        HourWell x = Check.told("p;p;p;p;r0 1 5;r1 2 5;r2 3 9;r1 3 9;h2 0 9;");
        CHECK.due("at the host's: first entered with it is 1, at 15", x.robbed(0, 3), 1);
        CHECK.due("from home", x.robbed(0, 0), 1);
        CHECK.due("no way", x.robbed(1, 0), NONE);
        HourWell y = Check.told("p;p;p;r0 1 1;r1 2 9;h1 0 9;");
        CHECK.due("no later means as late, too: 2 hours against 10", y.robbed(0, 2), NONE);
        HourWell z = Check.told("p;p;p;r0 1 1;r0 2 2;h1 0 9;");
        CHECK.due("just as late", z.robbed(0, 2), 0);
        HourWell w = Check.told("p;p;p;r0 1 1;r0 2 3;h1 0 9;");
        CHECK.due("an hour too late", w.robbed(0, 2), NONE);
        HourWell far = Check.told("p;p;p;p;p;p;p;r1 0 9;r2 1 1;r3 2 1;r4 3 1;r5 4 1;r6 5 1;h1 0 9;");
        CHECK.due("the brother comes by six roads", far.robbed(0, 6), 0);
        HourWell apart = Check.told("p;p;p;r0 1 1;h1 0 9;");
        CHECK.due("no road to him", apart.robbed(0, 2), NONE);
        HourWell lion = Check.told("p;p;p;r0 1 1;r0 2 1;r1 2 1;h0 0 9;l2 0;h2 0 9;h2 1 9;g2 1 1;");
        CHECK.due("he sets out with it and the lion takes it", lion.robbed(1, 2), 0);
        CHECK.due("the place whose lion takes it counts", robbedAtLion(), 2);
        HourWell free = Check.told("p;p;p;r0 1 4;r0 2 1;r2 1 1;h1 0 9;g2 0 1;l2 0;");
        CHECK.due("no gates or lions stop the brother", free.robbed(0, 1), 0);
        HourWell home = Check.told("p;h0 0 9;");
        CHECK.due("nowhere entered", home.robbed(0, 0), NONE);
    }

    /** He has thing 0 from home, must feed it to the lion at 2, gets it anew there and goes home. */
    private static int robbedAtLion() {
        HourWell x = Check.told("p;p;p;r0 2 1;h0 0 9;l2 0;h2 1 9;h2 0 1;");
        x.asks(0);
        x.walks(0);
        x.asks(1);
        x.undo();
        x.undo();
        // home with thing 0 already: the way of thing 1 leads through the lion, thing 0 is not asked for
        CHECK.due("the way of thing 1", x.robbed(1, 2), 0);
        HourWell y = Check.told("p;p;p;r0 1 1;r1 2 1;l2 0;h2 0 9;r2 0 1;h0 0 9;g1 1 1;");
        y.asks(1);
        y.walks(0);
        y.waits();
        // from 1 home by road 0 in an hour; the lion's place is not entered
        CHECK.due("straight home", y.robbed(0, 2), 0);
        HourWell z = Check.told("p;p;p;r1 2 1;r2 0 1;r1 0 9;l2 0;h2 0 9;h0 0 9;");
        z.asks(1);
        z.walks(2);
        // from 1 through the lion's place, where he sets out to with it, gets it anew, and home
        return z.robbed(0, 2);
    }
}

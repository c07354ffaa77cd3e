/** Promises 8 to 12: walks, waits, asks, undo, now. */
public final class JourneyTest {
    private static final Check CHECK = new Check("JourneyTest");

    public static void main(String[] args) {
        walking();
        gates();
        lions();
        lastHours();
        asking();
        undoing();
        now();
        CHECK.end();
    }

    private static void walking() {
        HourWell x = Check.told("p;p;p;r0 1 2;r1 2 9;");
        CHECK.due("walks(-1)", x.walks(-1), -1);
        CHECK.due("walks(2)", x.walks(2), -1);
        CHECK.due("walks(1), not there", x.walks(1), -2);
        CHECK.due("nothing to undo of what was refused", x.count(6), 0);
        CHECK.due("walks(0)", x.walks(0), 1);
        CHECK.due("the hour", x.now(1), 2);
        CHECK.due("walks(1)", x.walks(1), 2);
        CHECK.due("the hour then", x.now(1), 11);
        CHECK.due("walks(0), not there", x.walks(0), -2);
        CHECK.due("walks(1) the other way", x.walks(1), 1);
        CHECK.due("walks(0) the other way", x.walks(0), 0);
        CHECK.due("the hour of the day", x.now(2), 22);
    }

    private static void gates() {
        HourWell x = Check.told("p;p;r0 1 1;g1 23 2;");
        for (int hour = 1; hour <= 49; hour++) {
            boolean isOpen = hour % 24 == 23 || hour % 24 == 0;
            CHECK.due("walks(0) to be there at " + hour, x.walks(0), isOpen ? 1 : -2);
            if (isOpen) x.undo();
            x.waits();
        }
        HourWell y = Check.told("p;p;r0 1 1;g1 5 24;");
        CHECK.due("a gate that is open all day", y.walks(0), 1);
        HourWell z = Check.told("p;p;r0 1 1;g1 2 1;o6;");
        CHECK.due("the true clock counts", z.walks(0), -2);
        z.waits();
        CHECK.due("the true clock counts, open", z.walks(0), 1);
        CHECK.due("the gate of the place that he leaves does not matter", z.walks(0), 0);
    }

    private static void lions() {
        HourWell x = Check.told("p;p;r0 1 1;l1 3;h0 3 9;h0 0 9;h1 3 9;");
        x.asks(1);
        CHECK.due("nothing for the lion", x.walks(0), -2);
        CHECK.due("asks(0)", x.asks(0), 9);
        CHECK.due("walks(0)", x.walks(0), 1);
        CHECK.due("it is taken", x.now(3), 1);
        CHECK.due("asks(2)", x.asks(2), 9);
        CHECK.due("home has no lion", x.walks(0), 0);
        CHECK.due("he has it yet", x.now(3), 9);
        HourWell y = Check.told("p;p;r0 1 1;l1 3;g1 5 1;h0 3 9;");
        y.asks(0);
        CHECK.due("a shut gate, bread or not", y.walks(0), -2);
        CHECK.due("the bread is his yet", y.now(3), 8);
    }

    private static void lastHours() {
        HourWell x = Check.told("p;p;r0 1 9;r0 1 8;h0 0 9;");
        walksOften(x, 9996);
        CHECK.due("the hour", x.now(1), 9996);
        CHECK.due("walks(0) beyond the last hour", x.walks(0), -2);
        CHECK.due("waits() at 9996", x.waits(), 9997);
        CHECK.due("waits() at 9997", x.waits(), 9998);
        CHECK.due("waits() at 9998", x.waits(), 9999);
        CHECK.due("waits() at 9999", x.waits(), -2);
        CHECK.due("no road then", x.now(4), 0);
        CHECK.due("undo()", x.undo(), 11);
        CHECK.due("the hour is 9998", x.now(1), 9998);
        HourWell y = Check.told("p;p;r0 1 9;r0 1 8;h0 0 9;");
        walksOften(y, 9990);
        CHECK.due("both roads at 9990", y.now(4), 3);
        y.waits();
        CHECK.due("the shorter road at 9991", y.now(4), 2);
        CHECK.due("walks(0) to hour 10000", y.walks(0), -2);
        int other = 1 - y.now(0);
        CHECK.due("walks(1) to hour 9999", y.walks(1), other);
        CHECK.due("hour 9999", y.now(1), 9999);
        CHECK.due("hour of the day", y.now(2), 15);
    }

    /** Walks the road 0 of nine hours, both ways, and waits for what is left over. */
    private static void walksOften(HourWell x, int hour) {
        for (int k = 0; k < hour / 9; k++) x.walks(0);
        Check.waits(x, hour % 9);
    }

    private static void asking() {
        HourWell x = Check.told("p;p;r0 1 1;h0 2 9;h0 4 2;h1 0 9;h0 3 3;");
        CHECK.due("asks(-1)", x.asks(-1), -1);
        CHECK.due("asks(4)", x.asks(4), -1);
        CHECK.due("asks(2), not there", x.asks(2), -2);
        CHECK.due("asks(1) without what he asks", x.asks(1), -2);
        CHECK.due("asks(3), who asks what he gives", x.asks(3), -2);
        CHECK.due("asks(0)", x.asks(0), 4);
        CHECK.due("asks(0) again", x.asks(0), -2);
        CHECK.due("asks(1)", x.asks(1), 20);
        CHECK.due("no hour goes by", x.now(1), 0);
        CHECK.due("what he asks is not taken", x.now(3), 20);
        CHECK.due("two may be undone", x.count(6), 2);
    }

    private static void undoing() {
        HourWell x = Check.told("p;p;r0 1 3;h0 0 9;l1 0;");
        CHECK.due("undo() of nothing", x.undo(), -2);
        x.asks(0);
        x.waits();
        x.walks(0);
        CHECK.due("undo() of the walk", x.undo(), 2);
        CHECK.due("at home", x.now(0), 0);
        CHECK.due("the hour", x.now(1), 1);
        CHECK.due("what the lion took", x.now(3), 1);
        CHECK.due("undo() of the wait", x.undo(), 1);
        CHECK.due("the hour", x.now(1), 0);
        CHECK.due("undo() of the ask", x.undo(), 0);
        CHECK.due("he has nothing", x.now(3), 0);
        CHECK.due("undo() of nothing more", x.undo(), -2);
        for (int i = 1; i <= 20; i++) {
            x.waits();
            CHECK.due("count(6) behind " + i + " waits", x.count(6), Math.min(i, 12));
        }
        for (int i = 1; i <= 12; i++) {
            CHECK.due("undo() " + i, x.undo(), 12 - i);
            CHECK.due("the hour then", x.now(1), 20 - i);
        }
        CHECK.due("older ones are lost", x.undo(), -2);
        CHECK.due("the hour stays", x.now(1), 8);
        undoingAll();
    }

    /** Twenty steps that change the place or the things; the last twelve come back one by one. */
    private static void undoingAll() {
        HourWell x = Check.told("p;p;p;r0 1 1;r1 2 2;r2 0 3;l1 0;h0 0 9;h0 1 9;h1 0 9;h1 2 9;h2 3 9;");
        int[] steps = {11, 12, 1, 13, 14, 2, 15, 3, 1, 13, 2, 3, 1, 13, 2, 3, 1, 13, 2, 3};
        int[][] ahead = new int[steps.length][];
        for (int k = 0; k < steps.length; k++) {
            ahead[k] = new int[] {x.now(0), x.now(1), x.now(3)};
            int answer = steps[k] > 10 ? x.asks(steps[k] - 11) : x.walks(steps[k] - 1);
            CHECK.due("step " + k + " is done", answer < 0 ? 0 : 1, 1);
        }
        x.keep(0);
        undoesTo(x, ahead);
        x.waits();
        x.back(0);
        undoesTo(x, ahead);
    }

    private static void undoesTo(HourWell x, int[][] ahead) {
        for (int k = ahead.length - 1; k >= ahead.length - 12; k--) {
            x.undo();
            CHECK.due("the place ahead of step " + k, x.now(0), ahead[k][0]);
            CHECK.due("the hour ahead of step " + k, x.now(1), ahead[k][1]);
            CHECK.due("the things ahead of step " + k, x.now(3), ahead[k][2]);
        }
        CHECK.due("no more", x.undo(), -2);
    }

    private static void now() {
        HourWell x = Check.told("p;p;p;r0 1 1;r0 2 2;r2 1 1;r0 1 4;h0 1 9;h0 2 1;h1 0 9;l2 1;g1 0 3;");
        CHECK.due("now(-1)", x.now(-1), -1);
        CHECK.due("now(6)", x.now(6), -1);
        CHECK.due("now(4): the gate is shut at 4, nothing for the lion", x.now(4), 1);
        CHECK.due("now(5)", x.now(5), 1);
        CHECK.due("now(5) of two hosts", Check.told("p;h0 1 9;h0 2 9;h0 3 1;").now(5), 3);
        x.asks(0);
        CHECK.due("now(4) with bread", x.now(4), 3);
        CHECK.due("now(5) with bread", x.now(5), 2);
        Check.waits(x, 20);
        CHECK.due("now(4) at 20", x.now(4), 10);
        CHECK.due("now(1)", x.now(1), 20);
        Check.waits(x, 30);
        CHECK.due("now(1) at 50", x.now(1), 50);
        CHECK.due("now(2) at 50", x.now(2), 2);
        CHECK.due("now(3) at 50", x.now(3), 2);
        x.walks(1);
        CHECK.due("now(0)", x.now(0), 2);
        CHECK.due("now(4) there: home has no gate", x.now(4), 2);
    }
}

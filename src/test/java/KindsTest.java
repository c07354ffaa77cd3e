/** Promises 23 to 27: mark, keep, back, count, trace. */
public final class KindsTest {
    private static final Check CHECK = new Check("KindsTest");

    public static void main(String[] args) {
        marks();
        wrongMarks();
        images();
        imagesAndUndo();
        counts();
        CHECK.end();
    }

    private static void marks() {
        HourWell x = Check.told("p;p;p;r0 2 5;h2 4 9;h2 1 3;h0 3 9;h0 0 9;");
        x.asks(2);
        x.asks(3);
        x.walks(0);
        Check.waits(x, 40);
        // hour 45, 21 of the day; things 0 and 3
        int[][] want = {{4, 6, -5, 12, -3, 25}, {1, 3, -2, 6, 0, 22}};
        long[] adds = {1, 11, 101, 1011, 10101, 100001};
        long trace = 0;
        for (int h = 0; h < 2; h++) {
            for (int kind = 0; kind < 6; kind++) {
                CHECK.due("mark(" + kind + ", " + h + ")", x.mark(kind, h), want[h][kind]);
                trace += adds[kind];
                CHECK.due("trace()", x.trace(), trace);
            }
        }
        Check.tell(x, "p;h0 2 9;");
        CHECK.due("trace() stays", x.trace(), trace);
        CHECK.due("mark(5, 0) at hour 0", x.mark(5, 0), 2);
        CHECK.due("trace() goes on", x.trace(), trace + 100001);
        CHECK.due("another object's trace()", new HourWell().trace(), 0);
    }

    private static void wrongMarks() {
        HourWell x = Check.told("p;h0 2 9;");
        int[][] wrong = {{-1, 0}, {6, 0}, {0, -1}, {0, 1}, {Integer.MIN_VALUE, Integer.MAX_VALUE}};
        for (int[] row : wrong) CHECK.due("mark(" + row[0] + ", " + row[1] + ")", x.mark(row[0], row[1]), -1000000);
        CHECK.due("trace() of what was refused", x.trace(), 0);
        CHECK.due("no hosts", new HourWell().mark(0, 0), -1000000);
    }

    private static void images() {
        HourWell x = Check.told("p;p;r0 1 3;h0 0 9;");
        CHECK.due("keep(-1)", x.keep(-1), -1);
        CHECK.due("keep(2)", x.keep(2), -1);
        CHECK.due("back(-1)", x.back(-1), -1);
        CHECK.due("back(2)", x.back(2), -1);
        CHECK.due("back(0), none kept", x.back(0), -2);
        x.asks(0);
        x.waits();
        CHECK.due("keep(1)", x.keep(1), 1);
        CHECK.due("back(0), none kept yet", x.back(0), -2);
        x.walks(0);
        CHECK.due("keep(0)", x.keep(0), 4);
        x.swaps(0, 1);
        x.tastes(0, 0);
        x.mark(0, 0);
        x.type('p');
        CHECK.due("back(1)", x.back(1), 1);
        CHECK.due("the place", x.now(0), 0);
        CHECK.due("the hour", x.now(1), 1);
        CHECK.due("the things", x.now(3), 1);
        CHECK.due("swaps are not kept", x.count(4), 1);
        CHECK.due("tastes are not kept", x.count(5), 1);
        CHECK.due("the text is not kept", x.count(7), 1);
        CHECK.due("the trace is not kept", x.trace(), 1);
        CHECK.due("back(0)", x.back(0), 4);
        CHECK.due("the place", x.now(0), 1);
        CHECK.due("back(1) again", x.back(1), 1);
        x.keep(0);
        CHECK.due("an image kept anew", x.back(0), 1);
    }

    private static void imagesAndUndo() {
        HourWell x = Check.told("p;");
        Check.waits(x, 14);
        x.keep(0);
        x.undo();
        x.undo();
        x.waits();
        CHECK.due("count(6)", x.count(6), 11);
        CHECK.due("back(0)", x.back(0), 14);
        CHECK.due("count(6) behind it", x.count(6), 12);
        CHECK.due("undo() as the image has it", x.undo(), 11);
        CHECK.due("the hour", x.now(1), 13);
        Check.waits(x, 5);
        CHECK.due("the image stays as it was", x.back(0), 14);
        for (int i = 1; i <= 12; i++) {
            x.undo();
            CHECK.due("the hour undone", x.now(1), 14 - i);
        }
        HourWell things = Check.told("p;h0 0 9;");
        things.keep(0);
        things.asks(0);
        things.keep(1);
        things.back(0);
        CHECK.due("the things of image 0", things.now(3), 0);
        things.back(1);
        CHECK.due("the things of image 1", things.now(3), 1);
        HourWell y = Check.told("p;");
        y.keep(0);
        y.waits();
        y.back(0);
        CHECK.due("nothing to undo in the image", y.undo(), -2);
        y.waits();
        CHECK.due("undo() leaves images alone", y.undo(), 0);
        CHECK.due("back(0)", y.back(0), 0);
    }

    private static void counts() {
        HourWell x = Check.told("p;p;p;p;r0 1 1;r0 2 1;r0 3 1;h0 0 9;h0 1 9;o5;");
        x.swaps(0, 1);
        for (int i = 0; i < 3; i++) x.tastes(0, 1);
        Check.waits(x, 6);
        for (int i = 0; i < 9; i++) x.type('a');
        int[] want = {4, 3, 2, 5, 1, 3, 6, 9};
        for (int what = 0; what < want.length; what++) CHECK.due("count(" + what + ")", x.count(what), want[what]);
        CHECK.due("count(-1)", x.count(-1), -1);
        CHECK.due("count(8)", x.count(8), -1);
        CHECK.due("count(MAX)", x.count(Integer.MAX_VALUE), -1);
    }
}

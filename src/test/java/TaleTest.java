/** Promises 1 to 7: a new object, type, clear, tale, place, road, host. */
public final class TaleTest {
    private static final Check CHECK = new Check("TaleTest");

    public static void main(String[] args) {
        newObject();
        typing();
        clearing();
        telling();
        faults();
        tellingAnew();
        faultChangesNothing();
        places();
        roads();
        hosts();
        CHECK.end();
    }

    private static void newObject() {
        HourWell x = new HourWell();
        for (int what = 0; what <= 7; what++) CHECK.due("new count(" + what + ")", x.count(what), 0);
        CHECK.due("new now(0)", x.now(0), -9);
        for (int what = 1; what <= 5; what++) CHECK.due("new now(" + what + ")", x.now(what), 0);
        CHECK.due("new trace()", x.trace(), 0);
        CHECK.due("new undo()", x.undo(), -2);
        CHECK.due("new waits()", x.waits(), -2);
        CHECK.due("new walks(0)", x.walks(0), -1);
        CHECK.due("new asks(0)", x.asks(0), -1);
        CHECK.due("new place(0, 0)", x.place(0, 0), -1);
        CHECK.due("new road(0, 0)", x.road(0, 0), -1);
        CHECK.due("new host(0, 0)", x.host(0, 0), -1);
        CHECK.due("new robbed(0, 0)", x.robbed(0, 0), -1);
        CHECK.due("new back(0)", x.back(0), -2);
        CHECK.due("new back(1)", x.back(1), -2);
        CHECK.due("new lie(5, -1)", x.lie(5, -1), 1);
        CHECK.due("new keep(0)", x.keep(0), 0);
        CHECK.due("new back(0) behind keep(0)", x.back(0), 0);
        HourWell other = Check.told("p;");
        other.waits();
        CHECK.due("another object's hour", x.now(1), 0);
    }

    private static void typing() {
        HourWell x = new HourWell();
        CHECK.due("type(-1)", x.type(-1), -1);
        CHECK.due("type(256)", x.type(256), -1);
        CHECK.due("type(MIN)", x.type(Integer.MIN_VALUE), -1);
        CHECK.due("type(MAX)", x.type(Integer.MAX_VALUE), -1);
        CHECK.due("count(7)", x.count(7), 0);
        CHECK.due("type(0)", x.type(0), 1);
        CHECK.due("type(255)", x.type(255), 2);
        for (int i = 3; i <= 200; i++) CHECK.due("type the " + i + "th", x.type(32), i);
        CHECK.due("type the 201st", x.type(32), -3);
        CHECK.due("type the 201st, bad", x.type(256), -1);
        CHECK.due("count(7) of the full text", x.count(7), 200);
    }

    private static void clearing() {
        HourWell x = new HourWell();
        CHECK.due("clear() of an empty text", x.clear(), 0);
        x.type('x');
        x.type('y');
        CHECK.due("clear()", x.clear(), 2);
        CHECK.due("count(7)", x.count(7), 0);
        CHECK.due("clear() again", x.clear(), 0);
        CHECK.due("type behind clear()", x.type('p'), 1);
        x.type(';');
        CHECK.due("what was cleared is not read", x.tale(), 1);
        for (int i = 0; i < 200; i++) x.type(' ');
        CHECK.due("clear() of a full text", x.clear(), 200);
        CHECK.due("type behind it", x.type('p'), 1);
    }

    private static void tells(String text, int want) {
        HourWell x = new HourWell();
        CHECK.due("tale of '" + text + "'", Check.tell(x, text), want);
        CHECK.due("text left of '" + text + "'", x.count(7), want < 0 ? text.length() : 0);
    }

    private static void telling() {
        tells("", 0);
        tells("   ", 0);
        tells("p;", 1);
        tells(" p ; ", 1);
        tells("p;p;r0 1 9;", 3);
        tells("  p;p  ;r  0   1 9  ;  ", 3);
        tells("p;p;p;p;p;p;p;", 7);
        tells("p;p;r0 1 1;r0 1 1;r0 1 1;r1 0 1;r0 1 1;r0 1 1;r0 1 1;r0 1 1;r0 1 1;", 11);
        tells("p;h0 0 9;h0 1 0;h0 2 1;h0 3 2;h0 4 3;h0 0 4;", 7);
        tells("p;h0 3 3;", 2);
        tells("o0;", 1);
        tells("o6;", 1);
        tells("p;p;l1 4;g1 23 24;", 4);
        tells("p;p;g1 0 1;l1 0;", 4);
        StringBuilder full = new StringBuilder("p;");
        while (full.length() < 200) full.append(' ');
        tells(full.toString(), 1);
    }

    private static void fault(String ahead, String behind) {
        tells(ahead + behind, -10 - ahead.length());
    }

    private static void faults() {
        fault("", ";");
        fault("", "7;");
        fault("", "q;");
        fault("", "pp;");
        fault("", "P;");
        fault("  ", "ph0 0 9;");
        fault("p", "");
        fault("p   ", "");
        fault("p;r", "");
        fault("p;p;r0 1 2", "");
        fault("p", "!;");
        fault("", "pz;");
        fault("", "pa;");
        fault("p ", "0;");
        fault("p ", "p;");
        fault("p;", "\u0000");
        fault("p;", "\u00ff");
        fault("p;", "\t p;");
        fault("p;", "-1");
        fault("p;p;p;p;p;p;p;", "p;");
        fault("p;p;r", "2 0 1;");
        fault("p;p;r0 ", "2 1;");
        fault("p;p;r0 ", "0 1;");
        fault("p;p;r1 ", "1 1;");
        fault("p;p;r0 1 ", "0;");
        fault("p;p;r0 1 ", "10;");
        fault("p;p;r0 1 ", ";");
        fault("p;p;r0 1 ", "x;");
        fault("p;p;r0 1 ", "01;");
        fault("p;p;r0 1 1 ", "1;");
        fault("p;p;r", "00 1 1;");
        fault("p;p;r", "01 1 1;");
        fault("p;p;r", "100 1 1;");
        fault("p;p;r0 ", "4294967297 1;");
        fault("p;p;r0 1 ", "18446744073709551617;");
        fault("p;p;r0 1 1;r0 1 1;r0 1 1;r0 1 1;r0 1 1;r0 1 1;r0 1 1;r0 1 1;r0 1 1;", "r0 1 1;");
        fault("p;p;r0 1 1;r0 1 1;r0 1 1;r0 1 1;r0 1 1;r0 1 1;r0 1 1;r0 1 1;r0 1 1;", "r9 9 0;");
        fault("h", "0 0 9;");
        fault("p;h", "1 0 9;");
        fault("p;h0 ", "5 9;");
        fault("p;h0 ", "9 9;");
        fault("p;h0 0 ", "5;");
        fault("p;h0 0 ", "8;");
        fault("p;h0 0 ", "10;");
        fault("p;h0 0 ", "99;");
        fault("p;h0 0 9;h0 0 9;h0 0 9;h0 0 9;h0 0 9;h0 0 9;", "h0 0 9;");
        fault("p;p;l", "0 0;");
        fault("p;p;l", "2 0;");
        fault("p;p;l1 ", "5;");
        fault("p;p;l1 ", "9;");
        fault("p;p;l1 2;l", "1 2;");
        fault("p;p;g", "0 1 1;");
        fault("p;p;g", "2 1 1;");
        fault("p;p;g1 ", "24 1;");
        fault("p;p;g1 0 ", "0;");
        fault("p;p;g1 0 ", "25;");
        fault("p;p;g1 2 24;g", "1 2 24;");
        fault("o", "7;");
        fault("o", ";");
        fault("o0;", "o0;");
        fault("o3;", "o9;");
        fault("p;r0", "");
        fault("r", "0 1 1;p;p;");
        oldBytes("px", "p", -11);
        oldBytes("o12;", "o1", -12);
        oldBytes("p;;", "p", -11);
        oldBytes("p;p;", "p;", 1);
    }

    /** What a cleared text had behind the new one's end is not read. */
    private static void oldBytes(String old, String text, int want) {
        HourWell x = new HourWell();
        for (char c : old.toCharArray()) x.type(c);
        x.clear();
        CHECK.due("tale of '" + text + "' behind '" + old + "'", Check.tell(x, text), want);
    }

    private static void tellingAnew() {
        HourWell x = Check.told("p;p;r0 1 2;h0 0 9;h1 1 9;l1 0;g1 2 3;o4;");
        x.asks(0);
        x.keep(0);
        x.keep(1);
        x.waits();
        x.swaps(0, 1);
        x.tastes(0, 0);
        x.mark(0, 0);
        CHECK.due("tale anew", Check.tell(x, "p;p;"), 2);
        CHECK.due("count(0) anew", x.count(0), 2);
        for (int what = 1; what <= 7; what++) CHECK.due("count(" + what + ") anew", x.count(what), 0);
        CHECK.due("place(1, 0) anew", x.place(1, 0), 9);
        CHECK.due("place(1, 1) anew", x.place(1, 1), -9);
        CHECK.due("place(1, 2) anew", x.place(1, 2), 24);
        CHECK.due("now(0) anew", x.now(0), 0);
        CHECK.due("now(1) anew", x.now(1), 0);
        CHECK.due("now(3) anew", x.now(3), 0);
        CHECK.due("undo() anew", x.undo(), -2);
        CHECK.due("back(0) anew", x.back(0), -2);
        CHECK.due("back(1) anew", x.back(1), -2);
        CHECK.due("trace() stays", x.trace(), 1);
        CHECK.due("tale of an empty text", x.tale(), 0);
        CHECK.due("no places then", x.count(0), 0);
        CHECK.due("nowhere then", x.now(0), -9);
        HourWell y = Check.told("p;p;r0 1 2;");
        y.walks(0);
        CHECK.due("tale of one place", Check.tell(y, "p;"), 1);
        CHECK.due("at home then", y.now(0), 0);
        CHECK.due("off may be told again in another text", Check.tell(Check.told("o3;"), "o2;"), 1);
    }

    private static void faultChangesNothing() {
        HourWell x = Check.told("p;p;r0 1 2;h1 1 9;l1 0;g1 2 3;h0 0 9;o4;");
        x.asks(1);
        x.keep(1);
        x.swaps(0, 1);
        x.tastes(0, 0);
        CHECK.due("tale with a fault at its end", Check.tell(x, "p;p;p;l1 4;o1;x"), -24);
        CHECK.due("count(0)", x.count(0), 2);
        CHECK.due("count(1)", x.count(1), 1);
        CHECK.due("count(2)", x.count(2), 2);
        CHECK.due("count(3)", x.count(3), 4);
        CHECK.due("count(4)", x.count(4), 1);
        CHECK.due("count(5)", x.count(5), 1);
        CHECK.due("count(6)", x.count(6), 1);
        CHECK.due("count(7)", x.count(7), 15);
        CHECK.due("place(1, 0)", x.place(1, 0), 0);
        CHECK.due("place(1, 1)", x.place(1, 1), 2);
        CHECK.due("now(3)", x.now(3), 1);
        CHECK.due("back(1)", x.back(1), 0);
        CHECK.due("the text goes on", x.type(';'), 16);
        CHECK.due("the same fault again", x.tale(), -24);
    }

    private static void places() {
        HourWell x = Check.told("p;p;p;l1 4;g2 23 24;");
        int[][] want = {{9, -9, 24}, {4, -9, 24}, {9, 23, 24}};
        for (int p = 0; p < 3; p++) {
            for (int what = 0; what < 3; what++) {
                CHECK.due("place(" + p + ", " + what + ")", x.place(p, what), want[p][what]);
            }
        }
        CHECK.due("place(-1, 0)", x.place(-1, 0), -1);
        CHECK.due("place(3, 0)", x.place(3, 0), -1);
        CHECK.due("place(0, -1)", x.place(0, -1), -1);
        CHECK.due("place(0, 3)", x.place(0, 3), -1);
        CHECK.due("place(MAX, MIN)", x.place(Integer.MAX_VALUE, Integer.MIN_VALUE), -1);
    }

    private static void roads() {
        HourWell x = Check.told("p;p;p;r2 1 9;r0 2 1;");
        int[][] want = {{2, 1, 9}, {0, 2, 1}};
        for (int r = 0; r < 2; r++) {
            for (int what = 0; what < 3; what++) {
                CHECK.due("road(" + r + ", " + what + ")", x.road(r, what), want[r][what]);
            }
        }
        CHECK.due("road(-1, 0)", x.road(-1, 0), -1);
        CHECK.due("road(2, 0)", x.road(2, 0), -1);
        CHECK.due("road(0, -1)", x.road(0, -1), -1);
        CHECK.due("road(0, 3)", x.road(0, 3), -1);
    }

    private static void hosts() {
        HourWell x = Check.told("p;p;p;h2 4 0;h0 1 9;");
        int[][] want = {{2, 4, 0}, {0, 1, 9}};
        for (int h = 0; h < 2; h++) {
            for (int what = 0; what < 3; what++) {
                CHECK.due("host(" + h + ", " + what + ")", x.host(h, what), want[h][what]);
            }
        }
        CHECK.due("host(-1, 0)", x.host(-1, 0), -1);
        CHECK.due("host(2, 0)", x.host(2, 0), -1);
        CHECK.due("host(0, -1)", x.host(0, -1), -1);
        CHECK.due("host(0, 3)", x.host(0, 3), -1);
    }
}

/** The boundary cases of the document's second part, and of promises 8 to 12. */
final class JourneyEdges {
    private static final int BAD = -1, STATE = -2, NONE = -9;

    private final Edges edges;

    JourneyEdges(Edges edges) {
        this.edges = edges;
    }

    void run() {
        edges.part("Terms");
        terms();
        promises();
    }

    /** Back and forth by a road of nine hours, and waits for what is left over. */
    private static HourWell at(int hour, String tale) {
        HourWell x = Check.told(tale);
        for (int k = 0; k < hour / 9; k++) x.walks(0);
        Check.waits(x, hour % 9);
        return x;
    }

    private void terms() {
        edges.edge("He is at HOME (if there are PLACES), it is HOUR 0 (9999 at most; HOUR of the day: left over by 24), he has nothing.", () -> {
            HourWell x = Check.told("p;p;r1 0 1;h0 0 9;");
            edges.row("now(..)", 0, x::now, 0, 0, 0, 0);
            edges.due("now(0) without places", Check.told("o1;").now(0), NONE);
            Check.waits(x, 23);
            edges.due("now(2) at 23", x.now(2), 23);
            x.waits();
            edges.due("now(2) at 24", x.now(2), 0);
            x.waits();
            edges.due("now(2) at 25", x.now(2), 1);
            Check.waits(x, 23);
            edges.due("now(2) at 48", x.now(2), 0);
            HourWell last = at(9999, "p;p;r0 1 9;");
            edges.due("now(1) at last", last.now(1), 9999);
            edges.due("now(2) at last", last.now(2), 15);
            edges.due("waits() at last", last.waits(), STATE);
            edges.due("walks(0) at last", last.walks(0), STATE);
        });
        edges.edge("WALKS a ROAD that is there: HOURS go by, then he ENTERS the PLACE:", () -> {
            HourWell x = Check.told("p;p;p;r1 2 1;r0 1 9;");
            edges.due("walks(0), not there", x.walks(0), STATE);
            edges.due("walks(1)", x.walks(1), 1);
            edges.due("now(1)", x.now(1), 9);
            edges.due("walks(0)", x.walks(0), 2);
            edges.due("now(1)", x.now(1), 10);
            edges.due("walks(1), not there any more", x.walks(1), STATE);
        });
        edges.edge("its GATE is open in that HOUR (by the true clock)", () -> {
            HourWell x = Check.told("p;p;r0 1 5;g1 3 1;o6;");
            edges.due("walks(0) to be there at 5", x.walks(0), STATE);
            Check.waits(x, 21);
            edges.due("walks(0) to be there at 26", x.walks(0), STATE);
            x.waits();
            edges.due("walks(0) to be there at 27", x.walks(0), 1);
            edges.due("the gate that he leaves by is shut", x.walks(0), 0);
            x.undo();
            x.undo();
            x.waits();
            edges.due("walks(0) to be there at 28", x.walks(0), STATE);
        });
        edges.edge(", he has what its LION TAKES (it is TAKEN then); else he can't walk it now.", () -> {
            HourWell x = Check.told("p;p;r0 1 1;l1 4;g1 2 23;h0 3 9;h0 4 9;");
            x.asks(0);
            x.waits();
            edges.due("walks(0) with another thing", x.walks(0), STATE);
            x.undo();
            x.asks(1);
            edges.due("walks(0) while the gate is shut", x.walks(0), STATE);
            edges.due("nothing is taken", x.now(3), 24);
            x.waits();
            edges.due("walks(0)", x.walks(0), 1);
            edges.due("it is taken", x.now(3), 8);
            edges.due("the lion of the place that he leaves takes nothing", x.walks(0), 0);
            edges.due("walks(0) again, nothing for him", x.walks(0), STATE);
        });
        edges.edge("WAITS: an HOUR.", () -> {
            HourWell x = Check.told("p;p;r0 1 1;g1 1 1;l1 0;h0 0 9;h1 0 9;");
            x.asks(0);
            x.walks(0);
            x.asks(1);
            edges.due("waits() where the gate is shut then", x.waits(), 2);
            edges.due("now(0)", x.now(0), 1);
            edges.due("the lion takes nothing of who waits", x.now(3), 1);
        });
        edges.edge("ASKS a HOST who is there: he has what he ASKS, and not what he GIVES: he has that, too (no HOUR goes by).", () -> {
            HourWell x = Check.told("p;p;r0 1 1;h1 0 9;h0 1 2;h0 2 9;h0 4 4;h0 2 1;");
            edges.due("asks(0), not there", x.asks(0), STATE);
            edges.due("asks(1), nothing for him", x.asks(1), STATE);
            edges.due("asks(2)", x.asks(2), 4);
            edges.due("asks(2), what he gives one has", x.asks(2), STATE);
            edges.due("asks(1)", x.asks(1), 6);
            edges.due("asks(4), of whom one has both", x.asks(4), STATE);
            edges.due("asks(3), who asks what he gives", x.asks(3), STATE);
            edges.due("now(1)", x.now(1), 0);
        });
        edges.edge("UNDONE: the latest WALK, WAIT, ASK (12 are known, older ones are lost): all is as ahead of it.", this::twelve);
        edges.edge("STEPS are numbers: 0 WAITS; 1 and the ROAD: WALKS; 11 and the HOST: ASKS.", () -> {
            HourWell x = Check.told("p;p;p;r0 1 1;r0 1 1;r0 1 1;r0 1 1;r0 1 1;r0 1 1;r0 1 1;r0 1 1;r0 2 1;"
                + "h1 0 9;h1 0 9;h1 0 9;h1 0 9;h1 0 9;h2 1 9;g2 2 1;");
            edges.row("soonest(1, ..)", -1, i -> x.soonest(1, i), 3, 0, 9, 16, 9, NONE);
            edges.row("soonest(0, ..)", -1, i -> x.soonest(0, i), 2, 1, 11, 1, NONE);
        });
    }

    private void twelve() {
        HourWell x = Check.told("p;p;r0 1 2;h0 0 9;h0 1 9;l1 0;");
        x.waits();
        x.asks(0);
        x.asks(1);
        x.walks(0);
        Check.waits(x, 9);
        edges.due("count(6) of thirteen", x.count(6), 12);
        for (int k = 11; k >= 3; k--) {
            edges.due("undo() of a wait", x.undo(), k);
            edges.due("now(1) ahead of it", x.now(1), k);
        }
        edges.row("now(..) ahead of the waits", 0, x::now, 1, 3, 3, 2);
        edges.due("undo() of the walk", x.undo(), 2);
        edges.row("now(..) ahead of the walk", 0, x::now, 0, 1, 1, 3);
        edges.due("undo() of an ask", x.undo(), 1);
        edges.due("now(3) ahead of it", x.now(3), 1);
        edges.due("undo() of the other ask", x.undo(), 0);
        edges.due("now(3) ahead of it", x.now(3), 0);
        edges.due("undo() of what is lost", x.undo(), STATE);
        edges.due("now(1): the lost wait stays", x.now(1), 1);
        edges.due("waits() anew", x.waits(), 2);
        edges.due("undo() of it", x.undo(), 0);
        HourWell refused = Check.told("p;p;r0 1 2;l1 0;h1 0 9;");
        refused.walks(0);
        refused.asks(0);
        edges.due("what was refused is not undone", refused.undo(), STATE);
        twelveOfMany();
    }

    /** Thirty steps round three places; each time a lion takes what the next host gives again. */
    private void twelveOfMany() {
        HourWell x = Check.told("p;p;p;r0 1 1;r1 2 2;r2 0 3;l1 0;h0 0 9;");
        int[][] ahead = new int[30][];
        for (int k = 0; k < 30; k++) {
            ahead[k] = new int[] {x.now(0), x.now(1), x.now(3)};
            if (k % 5 == 0) edges.due("asks(0)", x.asks(0), 1);
            else if (k % 5 == 1) edges.due("waits()", x.waits(), ahead[k][1] + 1);
            else edges.due("walks(..)", x.walks(k % 5 - 2), (k % 5 - 1) % 3);
        }
        for (int k = 29; k >= 18; k--) {
            edges.due("undo()", x.undo(), k - 18);
            edges.due("now(0) ahead of step " + k, x.now(0), ahead[k][0]);
            edges.due("now(1) ahead of step " + k, x.now(1), ahead[k][1]);
            edges.due("now(3) ahead of step " + k, x.now(3), ahead[k][2]);
        }
        edges.due("undo() of what is lost", x.undo(), STATE);
    }

    private void promises() {
        edges.part("Promise 8");
        edges.edge(": WALKS: the PLACE where he is then.", () -> {
            HourWell x = Check.told("p;p;p;p;p;p;p;r6 0 1;r6 5 1;");
            edges.due("walks(0)", x.walks(0), 6);
            edges.due("walks(1)", x.walks(1), 5);
            edges.due("walks(1)", x.walks(1), 6);
            edges.due("walks(0)", x.walks(0), 0);
        });
        edges.edge("BAD; STATE: there are no PLACES, it is not there, the GATE is shut then, he has nothing for the LION, it would be HOUR 10000.", () -> {
            String tale = "p;p;p;r0 1 9;r1 2 1;r0 2 1;r0 2 8;r0 1 8;l2 0;g1 10 24;";
            HourWell x = Check.told(tale);
            edges.row("walks(..)", -1, x::walks, BAD, 1, STATE, STATE, STATE);
            edges.due("walks(5)", x.walks(5), BAD);
            edges.due("walks(0), no places", new HourWell().walks(0), BAD);
            HourWell shut = Check.told("p;p;r0 1 1;g1 2 23;");
            edges.due("the gate is shut", shut.walks(0), STATE);
            shut.waits();
            edges.due("the gate is open", shut.walks(0), 1);
            edges.due("to be there at 9999", at(9990, tale).walks(0), 1);
            edges.due("to be there at 10000", at(9991, tale).walks(0), STATE);
            edges.due("to be there at 9999 by a shorter road", at(9991, tale).walks(4), 1);
            edges.due("to be there at 10000 by a shorter road", at(9992, tale).walks(4), STATE);
            edges.due("now(1) then", at(9991, tale).now(1), 9991);
        });
        edges.part("Promise 9");
        edges.edge(": WAITS: the HOUR. STATE: there are no PLACES, it is HOUR 9999.", () -> {
            edges.due("waits(), no places", new HourWell().waits(), STATE);
            edges.due("waits(), a tale without places", Check.told("o6;").waits(), STATE);
            edges.due("waits() at 0", Check.told("p;").waits(), 1);
            HourWell x = at(9998, "p;p;r0 1 9;");
            edges.due("waits() at 9998", x.waits(), 9999);
            edges.due("waits() at 9999", x.waits(), STATE);
            edges.due("undo()", x.undo(), 11);
            edges.due("waits() at 9998 again", x.waits(), 9999);
        });
        edges.part("Promise 10");
        edges.edge(": ASKS: THINGS that he has then (bits).", () -> {
            HourWell x = Check.told("p;h0 4 9;h0 3 9;h0 2 9;h0 1 9;h0 0 9;h0 0 9;");
            edges.row("asks(..)", 0, x::asks, 16, 24, 28, 30, 31, STATE);
        });
        edges.edge("BAD; STATE: the HOST is not there, gives nothing to him.", () -> {
            HourWell x = Check.told("p;p;h1 0 9;h0 1 0;h0 2 9;");
            edges.row("asks(..)", -1, x::asks, BAD, STATE, STATE, 4, BAD);
            edges.due("asks(2) again", x.asks(2), STATE);
            edges.due("asks(0), no places", new HourWell().asks(0), BAD);
        });
        edges.part("Promise 11");
        edges.edge(": UNDONE: how many more may be. STATE: none.", () -> {
            HourWell x = Check.told("p;h0 0 9;");
            edges.due("undo() of none", x.undo(), STATE);
            x.waits();
            x.asks(0);
            edges.due("undo() of two", x.undo(), 1);
            edges.due("undo() of one", x.undo(), 0);
            edges.due("undo() of none", x.undo(), STATE);
            Check.waits(x, 12);
            edges.due("undo() of twelve", x.undo(), 11);
            Check.waits(x, 2);
            edges.due("undo() of thirteen", x.undo(), 11);
            edges.due("no places", new HourWell().undo(), STATE);
        });
        nowItself();
    }

    private void nowItself() {
        edges.part("Promise 12");
        edges.edge(": 0 the PLACE (NONE: no PLACES), 1 the HOUR, 2 the HOUR of the day, 3 THINGS (bits), ", () -> {
            HourWell x = Check.told("p;p;r0 1 9;h1 4 9;h1 0 9;");
            edges.row("now(..)", 0, x::now, 0, 0, 0, 0);
            for (int k = 0; k < 3; k++) x.walks(0);
            x.asks(0);
            x.asks(1);
            edges.row("now(..)", 0, x::now, 1, 27, 3, 17);
            HourWell none = new HourWell();
            edges.row("now(..), no places", 0, none::now, NONE, 0, 0, 0, 0, 0);
        });
        edges.edge("4 ROADS that he can WALK now (bits), ", () -> {
            HourWell x = Check.told("p;p;p;p;r0 1 1;r1 2 1;r2 0 1;r0 3 9;r3 0 8;r0 1 2;r0 1 1;r0 1 1;r0 1 1;g1 0 2;l2 0;h0 0 9;");
            edges.due("now(4)", x.now(4), 1 + 8 + 16 + 64 + 128 + 256);
            x.asks(0);
            edges.due("now(4) with bread", x.now(4), 1 + 4 + 8 + 16 + 64 + 128 + 256);
            x.waits();
            edges.due("now(4), the gate is shut then", x.now(4), 4 + 8 + 16);
            HourWell late = at(9990, "p;p;r0 1 9;r0 1 8;");
            edges.due("now(4) at 9990", late.now(4), 3);
            late.waits();
            edges.due("now(4) at 9991", late.now(4), 2);
            late.waits();
            edges.due("now(4) at 9992", late.now(4), 0);
            edges.due("now(4), no roads", Check.told("p;").now(4), 0);
        });
        edges.edge("5 HOSTS that he can ASK now (bits). BAD.", () -> {
            HourWell x = Check.told("p;p;h0 0 9;h0 1 0;h1 2 9;h0 0 1;h0 3 3;h0 4 9;");
            edges.due("now(5)", x.now(5), 1 + 32);
            x.asks(0);
            edges.due("now(5) behind the first", x.now(5), 2 + 32);
            x.asks(5);
            x.asks(1);
            edges.due("now(5) behind all", x.now(5), 0);
            edges.due("now(5), no hosts", Check.told("p;").now(5), 0);
            edges.due("now(-1)", x.now(-1), BAD);
            edges.due("now(6)", x.now(6), BAD);
            edges.due("now(6), no places", new HourWell().now(6), BAD);
        });
    }
}

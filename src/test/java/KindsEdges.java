/** The boundary cases of the document's fourth part, and of promises 23 to 27. */
final class KindsEdges {
    private static final int BAD = -1, STATE = -2, NO = -1000000;

    private final Edges edges;

    KindsEdges(Edges edges) {
        this.edges = edges;
    }

    void run() {
        edges.part("Terms");
        kinds();
        images();
        promises();
    }

    private void kinds() {
        edges.edge("KINDS of HOSTS are over one another: 0 HOST; 1 LENDING, 2 OFFENDED, 5 DWARF (each under HOST); 3 TWICE (under LENDING);"
            + " 4 FALSE (under OFFENDED).", () -> {
                long[] adds = {1, 11, 101, 1011, 10101, 100001};
                for (int kind = 0; kind < 6; kind++) {
                    HourWell x = Check.told("p;h0 0 9;");
                    x.mark(kind, 0);
                    edges.due("trace() behind mark(" + kind + ", 0)", x.trace(), adds[kind]);
                }
            });
        edges.edge("MARK of a HOST as if of a KIND (numbers in brackets come to THE TRACE (0 at first; of all calls ever, together) as often as"
            + " mark() asks that body; \"up\" is what the KIND above does, asked once):", () -> {
                HourWell x = Check.told("p;h0 0 9;");
                edges.due("trace() at first", x.trace(), 0);
                for (int k = 1; k <= 15; k++) {
                    x.mark(4, 0);
                    edges.due("trace()", x.trace(), 10101L * k);
                }
                edges.row("mark(.., 0)", -1, kind -> x.mark(kind, 0), NO, 0, 0, -9, 0, -9, 0, NO);
                edges.due("trace()", x.trace(), 10101L * 15 + 111227 - 1);
            });
        edges.edge("HOST the THING that he GIVES (1).", () -> {
            HourWell x = Check.told("p;h0 0 9;h0 4 4;");
            edges.row("mark(0, ..)", -1, h -> x.mark(0, h), NO, 0, 4, NO);
        });
        edges.edge("LENDING up, and his PLACE (10).", () -> {
            HourWell x = Check.told("p;p;p;p;p;p;p;h0 4 9;h6 4 9;h6 0 9;");
            edges.row("mark(1, ..)", 0, h -> x.mark(1, h), 4, 10, 6);
        });
        edges.edge("OFFENDED up less what he ASKS (9: none) (100).", () -> {
            HourWell x = Check.told("p;h0 0 9;h0 4 9;h0 0 4;h0 4 0;h0 2 2;");
            edges.row("mark(2, ..)", 0, h -> x.mark(2, h), -9, -5, -4, 4, 0);
        });
        edges.edge("TWICE up times 2 (1000).", () -> {
            HourWell x = Check.told("p;p;p;p;p;p;p;h0 0 9;h6 4 9;");
            edges.row("mark(3, ..)", 0, h -> x.mark(3, h), 0, 20);
        });
        edges.edge("FALSE up, and how many THINGS one has (10000).", () -> {
            HourWell x = Check.told("p;h0 0 9;h0 1 9;h0 2 9;h0 3 9;h0 4 9;h0 4 0;");
            for (int h = 0; h < 5; h++) {
                edges.due("mark(4, 0) with " + h, x.mark(4, 0), -9 + h);
                x.asks(h);
            }
            edges.due("mark(4, 0) with all", x.mark(4, 0), -4);
            edges.due("mark(4, 5) with all", x.mark(4, 5), 9);
        });
        edges.edge("DWARF up, and the HOUR of the day (100000).", () -> {
            HourWell x = Check.told("p;h0 0 9;h0 4 9;");
            edges.row("mark(5, ..) at 0", 0, h -> x.mark(5, h), 0, 4);
            Check.waits(x, 23);
            edges.row("mark(5, ..) at 23", 0, h -> x.mark(5, h), 23, 27);
            x.waits();
            edges.row("mark(5, ..) at 24", 0, h -> x.mark(5, h), 0, 4);
            x.waits();
            edges.row("mark(5, ..) at 25", 0, h -> x.mark(5, h), 1, 5);
        });
    }

    private void images() {
        edges.edge("IMAGES 0, 1 keep NOW (where he is, the HOUR, THINGS, what may be UNDONE); nothing else.", () -> {
            HourWell x = TaleEdges.busy();
            x.waits();
            long trace = x.trace();
            edges.due("back(0)", x.back(0), 4);
            edges.row("now(..)", 0, x::now, 1, 4, 4, 1);
            edges.row("count(..)", 0, x::count, 3, 3, 3, 2, 2, 1, 4, 5);
            x.swaps(0, 1);
            x.type(' ');
            edges.due("back(1)", x.back(1), 4);
            edges.row("now(..)", 0, x::now, 1, 4, 4, 3);
            edges.row("count(..)", 0, x::count, 3, 3, 3, 2, 3, 1, 5, 6);
            edges.due("trace()", x.trace(), trace);
            edges.due("undo()", x.undo(), 4);
            edges.due("now(3)", x.now(3), 1);
            edges.due("back(1) again", x.back(1), 4);
            edges.due("undo() again", x.undo(), 4);
            HourWell y = Check.told("p;p;r0 1 1;h1 0 9;h0 1 9;");
            y.walks(0);
            y.asks(0);
            y.keep(0);
            y.walks(0);
            y.asks(1);
            y.waits();
            edges.due("back(0) to another place", y.back(0), 1);
            edges.row("now(..)", 0, y::now, 1, 1, 1, 1);
            edges.due("undo() of the ask", y.undo(), 1);
            edges.row("now(..)", 0, y::now, 1, 1, 1, 0);
            edges.due("undo() of the walk", y.undo(), 0);
            edges.row("now(..)", 0, y::now, 0, 0, 0, 0);
            y.asks(1);
            y.waits();
            edges.due("back(0) again", y.back(0), 1);
            y.undo();
            edges.row("now(..) as the image had it", 0, y::now, 1, 1, 1, 0);
            y.undo();
            edges.row("now(..) as the image had it", 0, y::now, 0, 0, 0, 0);
        });
    }

    private void promises() {
        edges.part("Promise 23");
        edges.edge(": MARK. NO: BAD.", () -> {
            HourWell x = Check.told("p;h0 3 1;");
            edges.row("mark(.., 0)", -1, kind -> x.mark(kind, 0), NO, 3, 3, 2, 6, 2, 3, NO);
            edges.row("mark(5, ..)", -1, h -> x.mark(5, h), NO, 3, NO);
            edges.due("mark(0, 0), no hosts", Check.told("p;").mark(0, 0), NO);
            edges.due("mark(0, 0), no places", new HourWell().mark(0, 0), NO);
        });
        edges.part("Promise 24");
        edges.edge(": An IMAGE is kept: the HOUR. BAD.", () -> {
            HourWell x = Check.told("p;");
            edges.row("keep(..)", -1, x::keep, BAD, 0, 0, BAD);
            x.waits();
            edges.due("keep(0) again", x.keep(0), 1);
            x.waits();
            edges.due("back(0): the later one", x.back(0), 1);
            edges.due("back(1): the other one", x.back(1), 0);
            edges.due("keep(1), no places", new HourWell().keep(1), 0);
        });
        edges.part("Promise 25");
        edges.edge(": All of that becomes as an IMAGE has it: the HOUR. BAD; STATE: none was kept.", () -> {
            HourWell x = Check.told("p;");
            edges.row("back(..)", -1, x::back, BAD, STATE, STATE, BAD);
            x.keep(1);
            edges.row("back(..)", -1, x::back, BAD, STATE, 0, BAD);
            Check.waits(x, 14);
            x.keep(0);
            Check.waits(x, 3);
            edges.due("back(0)", x.back(0), 14);
            for (int k = 11; k >= 0; k--) edges.due("undo()", x.undo(), k);
            edges.due("undo() of what was lost", x.undo(), STATE);
            edges.due("now(1)", x.now(1), 2);
            edges.due("back(1)", x.back(1), 0);
            edges.due("undo() of nothing", x.undo(), STATE);
            Check.tell(x, "p;");
            edges.row("back(..) of another tale", 0, x::back, STATE, STATE);
        });
        edges.part("Promise 26");
        edges.edge(": 0 PLACES, 1 ROADS, 2 HOSTS, 3 OFF, 4 SWAPS, 5 TASTED, 6 how many may be UNDONE, 7 bytes of THE TEXT. BAD.", () -> {
            HourWell x = TaleEdges.full();
            Check.waits(x, 20);
            edges.row("count(..)", -1, x::count, BAD, 3, 3, 3, 2, 6, 6, 12, 200, BAD);
            HourWell y = Check.told("p;p;p;p;p;p;p;r0 1 1;r0 1 1;r0 1 1;r0 1 1;r0 1 1;r0 1 1;r0 1 1;r0 1 1;r0 1 1;"
                + "h0 0 9;h0 0 9;h0 0 9;h0 0 9;h0 0 9;h0 0 9;o6;");
            edges.row("count(..)", -1, y::count, BAD, 7, 9, 6, 6, 0, 0, 0, 0, BAD);
            HourWell none = new HourWell();
            edges.row("count(..), no places", -1, none::count, BAD, 0, 0, 0, 0, 0, 0, 0, 0, BAD);
        });
        edges.part("Promise 27");
        edges.edge(": THE TRACE.", () -> {
            HourWell x = Check.told("p;h0 0 9;");
            edges.due("trace()", x.trace(), 0);
            x.mark(3, 0);
            edges.due("trace()", x.trace(), 1011);
            edges.due("trace() again", x.trace(), 1011);
            x.mark(6, 0);
            x.mark(0, 1);
            edges.due("trace() of what was refused", x.trace(), 1011);
            x.keep(0);
            x.mark(0, 0);
            x.back(0);
            x.waits();
            x.undo();
            edges.due("trace() behind back() and undo()", x.trace(), 1012);
            Check.tell(x, "p;h0 0 9;");
            edges.due("trace() of another tale", x.trace(), 1012);
            for (int k = 0; k < 400; k++) x.mark(5, 0);
            edges.due("trace() of 400 dwarfs more", x.trace(), 1012 + 400L * 100001);
        });
    }
}

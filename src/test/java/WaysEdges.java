/** The boundary cases of ways in the document's third part, and of promises 13 to 16. */
final class WaysEdges {
    private static final int BAD = -1, NONE = -9;
    /** There and back by three roads of nine hours; a gate at the end makes him wait. */
    private static final String FAR = "p;p;p;p;r0 1 9;r1 2 9;r2 3 9;h3 0 9;g3 ";
    /** At 1 in hour 24 and at 2 in hour 47, since the gates are open an hour a day. */
    private static final String SLOW = "p;p;p;r0 1 1;r1 2 1;h1 0 9;h2 1 0;g1 0 1;g2 23 1;";

    private final Edges edges;

    WaysEdges(Edges edges) {
        this.edges = edges;
    }

    void run() {
        edges.part("Terms");
        fromNow();
        soonest();
        latest();
        without();
        robbed();
        promises();
    }

    /** The hours, each step, and that there is no step more. */
    private void way(String told, HourWell x, int t, int hours, int... steps) {
        edges.due(told + ": soonest(" + t + ", -1)", x.soonest(t, -1), hours);
        for (int i = 0; i < steps.length; i++) edges.due(told + ": soonest(" + t + ", " + i + ")", x.soonest(t, i), steps[i]);
        edges.due(told + ": the step behind the last", x.soonest(t, steps.length), NONE);
        edges.due(told + ": soonest(" + t + ", 99)", x.soonest(t, 99), NONE);
    }

    private static HourWell late(String tale) {
        HourWell x = Check.told(tale);
        Check.waits(x, 9999);
        return x;
    }

    private void fromNow() {
        edges.edge("(From NOW on; nothing is changed; HOURS may go beyond 9999 there.)", () -> {
            HourWell x = Check.told("p;p;r0 1 3;h1 0 9;");
            x.walks(0);
            way("at 1", x, 0, 3, 11, 1);
            x.asks(0);
            way("at 1 with it", x, 0, 3, 1);
            x.walks(0);
            way("at home with it", x, 0, 0);
            HourWell gate = Check.told("p;p;r0 1 1;h1 0 9;g1 2 1;");
            way("at hour 0", gate, 0, 3, 0, 1, 11, 1);
            gate.waits();
            way("at hour 1", gate, 0, 2, 1, 11, 1);
            gate.waits();
            edges.due("soonest(0, -1) at hour 2", gate.soonest(0, -1), 25);
            gate.undo();
            way("at hour 1 again", gate, 0, 2, 1, 11, 1);
            gate.undo();
            way("at hour 0 again", gate, 0, 3, 0, 1, 11, 1);
            gate.waits();
            gate.walks(0);
            gate.keep(0);
            way("at 1 in hour 2", gate, 0, 1, 11, 1);
            gate.undo();
            gate.waits();
            edges.due("soonest(0, -1) at home in the same hour", gate.soonest(0, -1), 25);
            gate.back(0);
            way("at 1 in the same hour", gate, 0, 1, 11, 1);
            gate.asks(0);
            way("at 1 in the same hour, with it", gate, 0, 1, 1);
            for (int t = 0; t < 5; t++) {
                int thing = t;
                long hours = TaleEdges.busy().soonest(t, -1);
                edges.leaves("soonest(" + t + ", -1)", TaleEdges::busy, y -> y.soonest(thing, -1), hours);
                long most = TaleEdges.busy().latest(t, 60);
                edges.leaves("latest(" + t + ", 60)", TaleEdges::busy, y -> y.latest(thing, 60), most);
                long roads = TaleEdges.busy().without(t, 0);
                edges.leaves("without(" + t + ", 0)", TaleEdges::busy, y -> y.without(thing, 0), roads);
                long place = TaleEdges.busy().robbed(t, 0);
                edges.leaves("robbed(" + t + ", 0)", TaleEdges::busy, y -> y.robbed(thing, 0), place);
            }
            HourWell last = late("p;p;r0 1 9;h1 0 9;g1 3 1;");
            // hour 9999 is 15 of the day; he enters at 3 of the day, twelve hours from then
            way("at 9999", last, 0, 21, 0, 0, 0, 1, 11, 1);
            edges.due("latest(0, 60) at 9999", last.latest(0, 60), 27);
            edges.due("without(0, 0) at 9999", last.without(0, 0), 1);
            edges.due("robbed(0, 1) at 9999", last.robbed(0, 1), 0);
        });
    }

    private void soonest() {
        edges.edge("SOONEST with a THING: the fewest HOURS (60 at most) behind which he can be at HOME and have it;", () -> {
            way("sixty", Check.told(FAR + "9 1;"), 0, 60, 0, 0, 0, 0, 0, 0, 1, 2, 3, 11, 3, 2, 1);
            way("sixty-one", Check.told(FAR + "10 1;"), 0, NONE);
            way("fifty-four", Check.told(FAR + "3 1;"), 0, 54, 1, 2, 3, 11, 3, 2, 1);
            way("none, for he is there", Check.told("p;h0 4 9;"), 4, 0, 11);
            way("none gives it", Check.told("p;p;r0 1 1;h0 0 9;"), 1, NONE);
            way("no road to who gives it", Check.told("p;p;h1 0 9;"), 0, NONE);
            way("a lion at the door, nothing for him", Check.told("p;p;r0 1 1;l1 0;h1 0 9;"), 0, NONE);
            way("bread for one lion of two", Check.told("p;p;p;r0 1 1;r1 2 1;l1 0;l2 0;h0 0 9;h2 4 9;"), 4, NONE);
            way("bread for a lion once, and no other road back", Check.told("p;p;p;r0 1 1;r1 2 1;l1 0;h0 0 9;h2 4 9;"), 4, NONE);
            way("round a lion who takes it", Check.told("p;p;p;p;r0 1 1;r1 2 1;r0 3 1;r3 2 2;h2 0 9;l1 0;"), 0, 6, 3, 4, 11, 4, 3);
            way("two roads are sooner than one", Check.told("p;p;p;r0 2 7;r0 1 3;r1 2 3;h2 0 9;"), 0, 12, 2, 3, 11, 3, 2);
        });
        edges.edge("of several rows of STEPS by which it is so the first (step by step the lesser;", () -> {
            way("the lesser road", Check.told("p;p;r0 1 2;r1 0 2;h1 0 9;"), 0, 4, 1, 11, 1);
            way("the lesser host", Check.told("p;h0 0 9;h0 0 9;"), 0, 0, 11);
            way("a wait ahead of a walk", Check.told("p;p;r0 1 1;h1 0 9;g1 3 1;"), 0, 4, 0, 0, 1, 11, 1);
            way("a wait ahead of an ask", Check.told("p;p;r0 1 1;h0 1 9;h1 0 1;g1 2 1;"), 0, 3, 0, 11, 1, 12, 1);
            way("a walk ahead of an ask", Check.told("p;p;r0 1 1;h0 1 9;h1 1 9;h1 0 1;"), 0, 2, 1, 12, 13, 1);
            way("an ask of no use ahead of one with a greater number", Check.told("p;h0 1 9;h0 0 9;"), 0, 0, 11, 12);
            way("the lesser road takes too long", Check.told("p;p;r0 1 2;r0 1 1;h1 0 9;"), 0, 2, 2, 11, 2);
        });
        edges.edge("one that is the beginning of another is ahead of it;", () -> {
            way("an ask more would take no hour", Check.told("p;h0 0 9;h0 1 9;"), 0, 0, 11);
            HourWell x = Check.told("p;h0 1 9;h0 0 9;");
            x.asks(1);
            way("no step at all", x, 0, 0);
            way("an ask more at the end of a walk", Check.told("p;p;r0 1 1;h1 0 9;h0 1 9;"), 0, 2, 1, 11, 1);
        });
        edges.edge("an ASK that is done takes no HOUR)", () -> {
            way("five asks", Check.told("p;h0 4 3;h0 3 2;h0 2 1;h0 1 0;h0 0 9;"), 4, 0, 15, 14, 13, 12, 11);
            way("five asks there", Check.told("p;p;r0 1 1;h1 4 3;h1 3 2;h1 2 1;h1 1 0;h1 0 9;"), 4, 2, 1, 15, 14, 13, 12, 11, 1);
            way("an ask for what a lion took",
                Check.told("p;p;p;r0 1 1;r1 2 1;l1 0;l2 0;h0 0 9;h1 0 9;h2 0 9;h2 4 9;"), 4, 4, 11, 1, 12, 2, 13, 14, 2, 1);
        });
        edges.edge(": HOURS; the i-th STEP (from 0); NONE.", () -> {
            int[] steps = new int[51];
            steps[23] = 1;
            int[] end = {11, 2, 12, 2, 1};
            System.arraycopy(end, 0, steps, 46, end.length);
            way("fifty-one steps", Check.told(SLOW), 1, 49, steps);
            sixtySevenSteps();
            sixtyEightSteps();
        });
    }

    /** In 1 at hours 11 and 59, in 2 at 34 and 58, in 3 at 57; each time a lion takes thing 0. */
    private void sixtySevenSteps() {
        HourWell x = Check.told("p;p;p;p;r0 1 1;r1 2 1;r2 3 1;l1 0;l2 0;l3 0;g1 11 1;g2 10 1;g3 9 1;"
            + "h0 0 9;h1 0 9;h2 0 9;h3 0 9;h3 4 3;h3 3 9;");
        int[] steps = new int[67];
        steps[10] = 11;
        steps[11] = 1;
        steps[34] = 12;
        steps[35] = 2;
        int[] end = {13, 3, 14, 16, 15, 3, 13, 2, 1};
        System.arraycopy(end, 0, steps, 58, end.length);
        way("sixty-seven steps", x, 4, 60, steps);
    }

    /** In 1 at hours 11, 35 and 59, in 2 at 34 and 58, for what each asks of the other; lions as above. */
    private void sixtyEightSteps() {
        HourWell x = Check.told("p;p;p;r0 1 1;r1 2 1;l1 0;l2 0;g1 11 1;g2 10 1;h0 0 9;h1 0 9;h2 0 9;h2 1 9;h1 2 1;h2 3 2;");
        int[] steps = new int[68];
        steps[10] = 11;
        steps[11] = 1;
        int[] middle = {12, 2, 13, 14, 2};
        System.arraycopy(middle, 0, steps, 34, middle.length);
        int[] end = {12, 15, 2, 13, 16, 2, 1};
        System.arraycopy(end, 0, steps, 61, end.length);
        way("sixty-eight steps", x, 3, 60, steps);
    }

    private void latest() {
        edges.edge("LATEST for a THING, n (0 .. 60): the most HOURS that he may WAIT where he is first and yet be at HOME with it n HOURS from NOW; NONE.", () -> {
            HourWell x = Check.told("p;p;r0 1 2;h1 0 9;");
            edges.row("latest(0, ..)", -1, n -> x.latest(0, n), BAD, NONE, NONE, NONE, NONE, 0, 1, 2);
            edges.row("latest(0, ..)", 59, n -> x.latest(0, n), 55, 56, BAD);
            x.walks(0);
            edges.row("latest(0, ..) at 1", 0, n -> x.latest(0, n), NONE, NONE, 0, 1);
            x.asks(0);
            x.walks(0);
            edges.row("latest(0, ..) at home with it", 0, n -> x.latest(0, n), 0, 1, 2);
            edges.due("latest(0, 60) at home with it", x.latest(0, 60), 60);
            HourWell gate = Check.told("p;p;r0 1 2;h1 0 9;g1 23 2;");
            edges.row("latest(0, ..) by a gate round midnight", 24, n -> gate.latest(0, n), NONE, 21, 22, 22);
            edges.row("latest(0, ..) by a gate round midnight", 48, n -> gate.latest(0, n), 22, 45, 46, 46);
            edges.due("latest(0, 60) by a gate round midnight", gate.latest(0, 60), 46);
            HourWell far = Check.told(FAR + "9 1;");
            edges.row("latest(0, ..) of sixty hours", 59, n -> far.latest(0, n), NONE, 6);
            HourWell slow = Check.told(SLOW);
            edges.row("latest(1, ..)", 48, n -> slow.latest(1, n), NONE, 23, 23);
            edges.due("latest(1, 60) of what none gives", x.latest(1, 60), NONE);
            HourWell ask = Check.told("p;h0 0 9;");
            edges.row("latest(0, ..) of who gives it at home", 0, n -> ask.latest(0, n), 0, 1);
        });
    }

    private void without() {
        edges.edge("WITHOUT: ROADS (bits) without each of which alone there is no SOONEST of a THING, though there is one with it;", () -> {
            edges.due("one road", Check.told("p;p;r0 1 1;h1 0 9;").without(0, 0), 1);
            edges.due("two roads to one place", Check.told("p;p;r0 1 1;r0 1 9;h1 0 9;").without(0, 0), 0);
            edges.due("the ninth road", Check.told("p;p;p;r0 1 1;r0 1 1;r0 1 1;r0 1 1;r0 1 1;r0 1 1;r0 1 1;r0 1 1;r1 2 1;h2 0 9;")
                .without(0, 0), 256);
            edges.due("three roads in a row", Check.told(FAR + "9 1;").without(0, 0), 7);
            edges.due("none at all: sixty-one hours", Check.told(FAR + "10 1;").without(0, 0), 0);
            // there by road 4, back the same way; or all round by roads 0 to 3
            String round = "p;p;p;p;p;r0 1 9;r1 2 9;r2 3 9;r3 4 ";
            edges.due("sixty hours without it", Check.told(round + "3;r0 4 1;h4 0 9;").without(0, 0), 0);
            edges.due("sixty-two hours without it", Check.told(round + "4;r0 4 1;h4 0 9;").without(0, 0), 16);
            HourWell x = Check.told("p;p;r0 1 1;h1 0 9;");
            x.walks(0);
            x.asks(0);
            edges.due("on the way home", x.without(0, 0), 1);
            x.walks(0);
            edges.due("at home with it", x.without(0, 0), 0);
        });
        edges.edge("HOSTS (bits) likewise; 0, if there is none at all.", () -> {
            edges.due("one host", Check.told("p;h0 0 9;").without(0, 1), 1);
            edges.due("two hosts who give it", Check.told("p;h0 0 9;h0 0 9;").without(0, 1), 0);
            edges.due("the sixth host", Check.told("p;h0 0 9;h0 1 9;h0 2 9;h0 3 9;h0 0 9;h0 4 0;").without(4, 1), 32);
            edges.due("a row of five", Check.told("p;h0 4 3;h0 3 2;h0 2 1;h0 1 0;h0 0 9;").without(4, 1), 31);
            edges.due("who gives bread for the lion", Check.told("p;p;r0 1 1;h0 1 9;h1 0 9;l1 1;").without(0, 1), 3);
            edges.due("none at all", Check.told("p;h0 0 9;").without(1, 1), 0);
            edges.due("none at all, who asks what none gives", Check.told("p;h0 0 1;").without(0, 1), 0);
            edges.due("none at all, roads", Check.told("p;p;r0 1 1;h1 0 1;").without(0, 0), 0);
            HourWell x = Check.told("p;h0 0 9;");
            x.asks(0);
            edges.due("he has it", x.without(0, 1), 0);
            HourWell both = Check.told("p;p;r0 1 1;h1 0 9;h0 1 9;");
            edges.due("roads of a way", both.without(0, 0), 1);
            edges.due("roads, none at all behind a way", both.without(2, 0), 0);
            edges.due("hosts of a way", both.without(1, 1), 2);
            edges.due("hosts, none at all behind a way", both.without(2, 1), 0);
        });
    }

    private void robbed() {
        edges.edge("ROBBED: a brother sets out now from a PLACE, walks, waits as he likes, no GATES or LIONS stop him:", () -> {
            HourWell x = Check.told("p;p;p;p;r0 1 3;r2 3 1;r3 0 1;h1 0 9;g3 12 1;l3 4;");
            edges.due("past a gate and a lion", x.robbed(0, 2), 0);
            edges.due("from where the way ends", x.robbed(0, 0), 0);
            HourWell apart = Check.told("p;p;p;r0 1 3;h1 0 9;");
            edges.due("no road to him", apart.robbed(0, 2), NONE);
            HourWell most = Check.told("p;p;p;p;p;p;p;r6 5 1;r5 4 1;r4 3 1;r3 2 1;r2 1 1;r1 0 3;h1 0 9;");
            edges.due("by six roads, two hours too late", most.robbed(0, 6), NONE);
            HourWell turned = Check.told("p;p;p;p;p;p;p;r1 0 9;r2 1 1;r3 2 1;r4 3 1;r5 4 1;r6 5 1;h1 0 9;");
            edges.due("by six roads, each told ahead of the one that leads to it", turned.robbed(0, 6), 0);
            most.waits();
            edges.due("from now: what he waited is no help", most.robbed(0, 6), NONE);
        });
        edges.edge("of the PLACES that he ENTERS on the SOONEST way of a THING while he has it (when he sets out to that PLACE)"
            + " the first at which the brother can be no later (HOME counts, too);", () -> {
                HourWell x = Check.told("p;p;p;p;r0 1 1;r1 2 1;r2 3 2;r1 3 4;h2 0 9;");
                // he enters 1 at 3 and home at 4, having it
                edges.due("just as late: 3 hours to 1", x.robbed(0, 3), 1);
                edges.due("from the place where he gets it", x.robbed(0, 2), 1);
                edges.due("from 1 itself", x.robbed(0, 1), 1);
                edges.due("from home", x.robbed(0, 0), 1);
                HourWell late = Check.told("p;p;p;p;r0 1 1;r1 2 1;r0 3 4;h2 0 9;");
                edges.due("home alone, just as late", late.robbed(0, 3), 0);
                HourWell later = Check.told("p;p;p;p;r0 1 1;r1 2 1;r0 3 5;h2 0 9;");
                edges.due("an hour too late", later.robbed(0, 3), NONE);
                HourWell lion = Check.told("p;p;p;r0 1 1;r1 2 1;r2 0 9;l2 0;h1 0 9;h2 0 9;h2 1 9;");
                // for thing 1 he goes 1, 2 (the lion takes 0 there), asks 1 there, and home by 1
                edges.due("a place that he enters without it is none", lion.robbed(1, 2), 1);
                HourWell taken = Check.told("p;p;p;r1 2 1;r2 0 1;r1 0 9;l2 0;h2 0 9;h0 0 9;");
                taken.asks(1);
                taken.walks(2);
                edges.due("where the lion takes the thing that he sets out with", taken.robbed(0, 2), 2);
            });
        edges.edge("NONE (no way, or at none).", () -> {
            edges.due("no way", Check.told("p;p;r0 1 1;").robbed(0, 0), NONE);
            edges.due("sixty-one hours", Check.told(FAR + "10 1;").robbed(0, 0), NONE);
            HourWell x = Check.told("p;h0 0 9;");
            edges.due("none entered: he asks at home", x.robbed(0, 0), NONE);
            x.asks(0);
            edges.due("none entered: he is at home with it", x.robbed(0, 0), NONE);
            HourWell without = Check.told("p;p;r0 1 1;h0 0 9;");
            without.walks(0);
            edges.due("entered without it alone", without.robbed(0, 0), NONE);
            HourWell shorter = Check.told("p;p;r0 1 1;h1 0 9;h0 1 9;");
            shorter.asks(1);
            edges.due("behind a longer way: the longer one", shorter.robbed(0, 0), 0);
            edges.due("behind a longer way: none entered", shorter.robbed(1, 0), NONE);
        });
    }

    private void promises() {
        edges.part("Promise 13");
        edges.edge(": SOONEST: HOURS (i = -1), the i-th STEP (NONE: not so many); NONE. BAD (i -1 .. 99).", () -> {
            HourWell x = Check.told("p;p;r0 1 4;h1 0 9;");
            edges.row("soonest(0, ..)", -2, i -> x.soonest(0, i), BAD, 8, 1, 11, 1, NONE);
            edges.row("soonest(0, ..)", 98, i -> x.soonest(0, i), NONE, NONE, BAD);
            edges.row("soonest(1, ..), no way", -2, i -> x.soonest(1, i), BAD, NONE, NONE, NONE);
            edges.row("soonest(1, ..), no way", 99, i -> x.soonest(1, i), NONE, BAD);
            edges.row("soonest(.., 0)", -1, t -> x.soonest(t, 0), BAD, 1, NONE, NONE, NONE, NONE, BAD);
            HourWell none = new HourWell();
            edges.row("soonest(0, ..), no places", -2, i -> none.soonest(0, i), BAD, NONE, NONE);
            edges.due("soonest(5, -1), no places", none.soonest(5, -1), BAD);
        });
        edges.part("Promise 14");
        edges.edge(": LATEST; NONE. BAD.", () -> {
            HourWell x = Check.told("p;h0 0 9;");
            edges.row("latest(.., 0)", -1, t -> x.latest(t, 0), BAD, 0, NONE, NONE, NONE, NONE, BAD);
            edges.row("latest(0, ..)", 59, n -> x.latest(0, n), 59, 60, BAD);
            edges.row("latest(0, ..)", -1, n -> x.latest(0, n), BAD, 0);
            HourWell none = new HourWell();
            edges.row("latest(0, ..), no places", -1, n -> none.latest(0, n), BAD, NONE);
        });
        edges.part("Promise 15");
        edges.edge(": WITHOUT: ROADS (what = 0), HOSTS (1), as bits. BAD.", () -> {
            HourWell x = Check.told("p;p;r0 1 1;r0 1 1;h1 0 9;");
            edges.row("without(0, ..)", -1, what -> x.without(0, what), BAD, 0, 1, BAD);
            edges.row("without(.., 1)", -1, t -> x.without(t, 1), BAD, 1, 0, 0, 0, 0, BAD);
            HourWell none = new HourWell();
            edges.row("without(0, ..), no places", -1, what -> none.without(0, what), BAD, 0, 0, BAD);
        });
        edges.part("Promise 16");
        edges.edge(": ROBBED, the brother being at a PLACE; NONE. BAD.", () -> {
            HourWell x = Check.told("p;p;r0 1 1;h1 0 9;");
            edges.row("robbed(0, ..)", -1, p -> x.robbed(0, p), BAD, 0, 0, BAD);
            edges.row("robbed(.., 0)", -1, t -> x.robbed(t, 0), BAD, 0, NONE, NONE, NONE, NONE, BAD);
            HourWell none = new HourWell();
            edges.row("robbed(0, ..), no places", -1, p -> none.robbed(0, p), BAD, BAD, BAD);
        });
    }
}

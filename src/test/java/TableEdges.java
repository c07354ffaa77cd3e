/** The boundary cases of clocks and cups in the document's third part, and of promises 17 to 22. */
final class TableEdges {
    private static final int BAD = -1, FULL = -3, NONE = -9, NOT_ONE = -5;

    private final Edges edges;

    TableEdges(Edges edges) {
        this.edges = edges;
    }

    void run() {
        edges.part("Terms");
        clocks();
        cups();
        promises();
    }

    private void clocks() {
        edges.edge("SURE of a PLACE, an HOUR of the day: at this HOUR, and at all HOURS from OFF ahead of it to OFF behind it (round the day),"
            + " its GATE is open: 1, else 0.", () -> {
                // open from 18 to 6: thirteen hours, whose middle is midnight
                sureAt("g1 18 13;o6;", 0, 0);
                sureAt("g1 18 12;o6;", 1, 0);
                sureAt("g1 18 14;o6;", 0, 1);
                sureAt("g1 1 23;o6;", 7, 17);
                sureAt("g1 0 23;o6;", 6, 16);
                sureAt("g1 5 24;o6;", 0, 23);
                sureAt("g1 23 3;o1;", 0, 0);
                sureAt("g1 23 1;", 23, 23);
                sureAt("g1 0 1;", 0, 0);
                sureAt("g1 0 1;o1;", 1, 0);
            });
        edges.edge("ODDS: how many of these (2 OFF and 1) HOURS it is open: a fraction.", () -> {
            oddsAt("g1 23 2;", 22, "0/1 1/1 1/1 0/1");
            oddsAt("g1 23 2;o1;", 21, "0/1 1/3 2/3 2/3 1/3 0/1");
            oddsAt("g1 0 1;o2;", 21, "0/1 1/5 1/5 1/5 1/5 1/5 0/1");
            oddsAt("g1 0 3;o4;", 19, "0/1 1/9 2/9 1/3 1/3 1/3 1/3 1/3 1/3 1/3 2/9 1/9 0/1");
            oddsAt("g1 0 23;o6;", 16, "1/1 12/13 12/13 12/13 12/13 12/13 12/13 12/13 12/13 12/13 12/13 12/13 12/13 12/13 1/1");
        });
        edges.edge("(No GATE: always open.)", () -> {
            for (String off : new String[] {"", "o1;", "o6;"}) {
                HourWell x = Check.told("p;p;l1 0;" + off);
                for (int hour = 0; hour < 24; hour++) {
                    edges.due("sure(1, " + hour + ")", x.sure(1, hour), 1);
                    edges.due("odds(0, " + hour + ", 0)", x.odds(0, hour, 0), 1);
                    edges.due("odds(0, " + hour + ", 1)", x.odds(0, hour, 1), 1);
                }
            }
        });
    }

    private void sureAt(String told, int first, int last) {
        HourWell x = Check.told("p;p;" + told);
        for (int hour = 0; hour < 24; hour++) {
            edges.due(told + " sure(1, " + hour + ")", x.sure(1, hour), hour >= first && hour <= last ? 1 : 0);
        }
    }

    private void oddsAt(String told, int first, String fractions) {
        HourWell x = Check.told("p;p;" + told);
        int hour = first;
        for (String fraction : fractions.split(" ")) {
            edges.due(told + " odds(1, " + hour + ", 0)", x.odds(1, hour, 0), Integer.parseInt(fraction.replaceAll("/.*", "")));
            edges.due(told + " odds(1, " + hour + ", 1)", x.odds(1, hour, 1), Integer.parseInt(fraction.replaceAll(".*/", "")));
            hour = (hour + 1) % 24;
        }
    }

    private static HourWell table(int[][] swaps, int[][] tastes) {
        HourWell x = new HourWell();
        for (int[] swap : swaps) x.swaps(swap[0], swap[1]);
        for (int[] taste : tastes) x.tastes(taste[0], taste[1]);
        return x;
    }

    private void cups() {
        int[][] none = {};
        edges.edge("CUPS 0 .. n - 1 (n 2 .. 5; n is asked): cup k lay on seat k.", () -> {
            HourWell x = new HourWell();
            edges.row("lie(.., -1)", 0, n -> x.lie(n, -1), BAD, BAD, 1, 1, 1, 1, BAD);
            for (int n = 2; n <= 5; n++) {
                for (int seat = 0; seat < n; seat++) edges.due("lie(" + n + ", " + seat + ")", x.lie(n, seat), seat);
                edges.due("lie(" + n + ", " + n + ")", x.lie(n, n), BAD);
            }
        });
        edges.edge("CHANGED: SWAPS (6 at most) that somebody may have done, in this order, each or not, of what lies on two unlike seats.", () -> {
            HourWell six = new HourWell();
            for (int k = 1; k <= 6; k++) edges.due("swaps(0, 1)", six.swaps(0, 1), k);
            edges.due("swaps(0, 1), the seventh", six.swaps(0, 1), FULL);
            edges.due("swaps(2, 2)", new HourWell().swaps(2, 2), BAD);
            HourWell chain = table(new int[][] {{0, 1}, {1, 2}}, new int[][] {{2, 0}});
            edges.due("in this order", chain.lie(3, -1), 1);
            HourWell turned = table(new int[][] {{1, 2}, {0, 1}}, new int[][] {{2, 0}});
            edges.due("in the other order", turned.lie(3, -1), 0);
            HourWell seats = table(new int[][] {{0, 1}, {0, 1}, {1, 0}}, none);
            edges.due("what lies on the seats, not the cups", seats.lie(2, -1), 2);
        });
        edges.edge("TASTED (6 at most): on a seat lies a cup.", () -> {
            HourWell six = new HourWell();
            for (int k = 1; k <= 6; k++) edges.due("tastes(4, 4)", six.tastes(4, 4), k);
            edges.due("tastes(4, 4), the seventh", six.tastes(4, 4), FULL);
            edges.due("lie(5, -1): the same six times", six.lie(5, -1), 1);
            HourWell unlike = table(new int[][] {{0, 1}}, new int[][] {{0, 0}, {0, 1}});
            edges.due("two cups on one seat", unlike.lie(2, -1), 0);
            HourWell last = table(none, new int[][] {{0, 0}, {1, 1}, {2, 2}, {3, 3}, {4, 4}, {0, 1}});
            edges.due("the sixth counts, too", last.lie(5, -1), 0);
        });
        edges.edge("LIE: rows in which cups can lie, by some of the SWAPS, so that all that is TASTED is so: how many unlike ones;", () -> {
            edges.due("none of no swap", new HourWell().lie(2, -1), 1);
            edges.due("two of one", table(new int[][] {{3, 4}}, none).lie(5, -1), 2);
            edges.due("two of six alike", table(new int[][] {{3, 4}, {4, 3}, {3, 4}, {4, 3}, {3, 4}, {4, 3}}, none).lie(5, -1), 2);
            edges.due("all six of three cups", table(new int[][] {{0, 1}, {1, 2}, {0, 1}}, none).lie(3, -1), 6);
            edges.due("all of three cups by six swaps", table(new int[][] {{0, 1}, {1, 2}, {0, 1}, {1, 2}, {0, 1}, {0, 2}}, none).lie(3, -1), 6);
            edges.due("all of four cups", table(new int[][] {{0, 1}, {1, 2}, {0, 1}, {2, 3}, {1, 2}, {0, 1}}, none).lie(4, -1), 24);
            edges.due("the sixth swap counts, too",
                table(new int[][] {{0, 1}, {0, 1}, {0, 1}, {0, 1}, {0, 1}, {3, 4}}, new int[][] {{4, 3}}).lie(5, -1), 2);
        });
        edges.edge("SURELY on a seat: the cup; -5: not one alone; NONE.", () -> {
            HourWell x = table(new int[][] {{0, 1}}, none);
            edges.row("lie(3, ..)", 0, seat -> x.lie(3, seat), NOT_ONE, NOT_ONE, 2, BAD);
            x.tastes(0, 1);
            edges.row("lie(3, ..) tasted", 0, seat -> x.lie(3, seat), 1, 0, 2, BAD);
            x.tastes(2, 1);
            edges.row("lie(3, ..), it can't be", 0, seat -> x.lie(3, seat), NONE, NONE, NONE, BAD);
        });
        edges.edge("TASTE: the seat at which most unlike cups can lie, of several the least (more than one; NONE).", () -> {
            edges.due("one at each", new HourWell().lie(5, -2), NONE);
            edges.due("two at two", table(new int[][] {{4, 3}}, none).lie(5, -2), 3);
            edges.due("two at all", table(new int[][] {{0, 1}, {2, 3}}, none).lie(4, -2), 0);
            edges.due("three at the last two, two at the one ahead", table(new int[][] {{2, 4}, {3, 4}}, none).lie(5, -2), 3);
            // the rows that are left: 0 1 2 3, 0 3 2 1, 0 3 1 2
            edges.due("three at the last alone", table(new int[][] {{0, 1}, {0, 2}, {1, 3}, {0, 3}}, new int[][] {{0, 0}}).lie(4, -2), 3);
            edges.due("three at one, two at those ahead", table(new int[][] {{0, 1}, {1, 2}}, none).lie(3, -2), 1);
            edges.due("none can lie so", table(new int[][] {{0, 1}}, new int[][] {{0, 2}}).lie(3, -2), NONE);
            edges.due("one row is left", table(new int[][] {{0, 1}}, new int[][] {{0, 0}}).lie(3, -2), NONE);
            edges.due("five at the last two", table(new int[][] {{4, 0}, {4, 1}, {4, 2}, {4, 3}}, none).lie(5, -2), 3);
        });
    }

    private void promises() {
        HourWell clock = Check.told("p;p;g1 0 12;o1;");
        HourWell none = new HourWell();
        edges.part("Promise 17");
        edges.edge(": SURE. BAD (an HOUR 0 .. 23).", () -> {
            edges.row("sure(1, ..)", -1, hour -> clock.sure(1, hour), BAD, 0, 1);
            edges.row("sure(1, ..)", 10, hour -> clock.sure(1, hour), 1, 0);
            edges.row("sure(0, ..)", 23, hour -> clock.sure(0, hour), 1, BAD);
            edges.row("sure(.., 5)", -1, p -> clock.sure(p, 5), BAD, 1, 1, BAD);
            edges.due("sure(0, 0), no places", none.sure(0, 0), BAD);
        });
        edges.part("Promise 18");
        edges.edge(": ODDS: upper (what = 0), lower number (1), in least terms. BAD.", () -> {
            edges.row("odds(1, 0, ..)", -1, what -> clock.odds(1, 0, what), BAD, 2, 3, BAD);
            edges.row("odds(1, 5, ..)", -1, what -> clock.odds(1, 5, what), BAD, 1, 1, BAD);
            edges.row("odds(1, 18, ..)", -1, what -> clock.odds(1, 18, what), BAD, 0, 1, BAD);
            edges.row("odds(1, .., 0)", -1, hour -> clock.odds(1, hour, 0), BAD, 2);
            edges.row("odds(1, .., 0)", 23, hour -> clock.odds(1, hour, 0), 1, BAD);
            edges.row("odds(.., 0, 0)", -1, p -> clock.odds(p, 0, 0), BAD, 1, 2, BAD);
            edges.due("odds(0, 0, 0), no places", none.odds(0, 0, 0), BAD);
        });
        edges.part("Promise 19");
        edges.edge(": A SWAP (seats 0 .. 4): how many. BAD; FULL.", () -> {
            HourWell x = new HourWell();
            edges.row("swaps(.., 2)", -1, a -> x.swaps(a, 2), BAD, 1, 2, BAD, 3, 4, BAD);
            edges.row("swaps(1, ..)", -1, b -> x.swaps(1, b), BAD, 5, BAD, 6, FULL, FULL, BAD);
            edges.due("swaps(4, 4) of too many", x.swaps(4, 4), BAD);
            edges.due("count(4)", x.count(4), 6);
        });
        edges.part("Promise 20");
        edges.edge(": TASTED (0 .. 4): how much there is. BAD; FULL.", () -> {
            HourWell x = new HourWell();
            edges.row("tastes(.., 0)", -1, seat -> x.tastes(seat, 0), BAD, 1, 2, 3, 4, 5, BAD);
            edges.row("tastes(0, ..)", -1, cup -> x.tastes(0, cup), BAD, 6, FULL, FULL, FULL, FULL, BAD);
            edges.due("count(5)", x.count(5), 6);
            HourWell y = new HourWell();
            edges.row("tastes(4, ..)", -1, cup -> y.tastes(4, cup), BAD, 1, 2, 3, 4, 5, BAD);
        });
        edges.part("Promise 21");
        edges.edge(": No SWAPS, nothing TASTED: how many both were.", () -> {
            HourWell x = TaleEdges.full();
            edges.due("clears() of twelve", x.clears(), 12);
            edges.due("clears() of none", x.clears(), 0);
            edges.row("count(..)", 4, x::count, 0, 0);
            edges.due("swaps(0, 1)", x.swaps(0, 1), 1);
            edges.due("clears() of one", x.clears(), 1);
            edges.due("tastes(0, 1)", x.tastes(0, 1), 1);
            edges.due("clears() of one", x.clears(), 1);
            edges.due("lie(5, -1)", x.lie(5, -1), 1);
        });
        lieItself();
    }

    private void lieItself() {
        edges.part("Promise 22");
        edges.edge(": LIE for n cups: how many (what = -1; 0: none can lie so), SURELY on a seat (0 .. n - 1; -5; NONE), TASTE (-2; NONE). BAD.", () -> {
            HourWell x = table(new int[][] {{0, 1}}, new int[][] {});
            edges.row("lie(2, ..)", -3, what -> x.lie(2, what), BAD, 0, 2, NOT_ONE, NOT_ONE, BAD);
            edges.row("lie(5, ..)", -3, what -> x.lie(5, what), BAD, 0, 2, NOT_ONE, NOT_ONE, 2, 3, 4, BAD);
            edges.row("lie(.., 0)", 1, n -> x.lie(n, 0), BAD, NOT_ONE, NOT_ONE, NOT_ONE, NOT_ONE, BAD);
            x.tastes(0, 2);
            edges.row("lie(3, ..), it can't be", -3, what -> x.lie(3, what), BAD, NONE, 0, NONE, NONE, NONE, BAD);
        });
        edges.edge("(A SWAP of a seat that there is not is not done; what is TASTED of a seat or a cup that there is not is not so.)", () -> {
            HourWell swap = table(new int[][] {{1, 2}, {3, 0}, {4, 1}}, new int[][] {});
            edges.row("lie(.., -1)", 2, n -> swap.lie(n, -1), 1, 2, 4, 8);
            HourWell seat = table(new int[][] {}, new int[][] {{3, 3}});
            edges.row("lie(.., -1), tasted of seat 3", 2, n -> seat.lie(n, -1), 0, 0, 1, 1);
            HourWell cup = table(new int[][] {{0, 3}}, new int[][] {{0, 3}});
            edges.row("lie(.., -1), tasted of cup 3", 2, n -> cup.lie(n, -1), 0, 0, 1, 1);
            HourWell zero = table(new int[][] {}, new int[][] {{4, 0}});
            edges.row("lie(.., -1), tasted of cup 0 on seat 4", 2, n -> zero.lie(n, -1), 0, 0, 0, 0);
            edges.row("lie(4, ..), tasted of seat 4", -2, what -> zero.lie(4, what), NONE, 0, NONE, NONE, NONE, NONE);
        });
    }
}

/** The boundary cases of the document's first part, of promises 1 to 7, and of what is refused. */
final class TaleEdges {
    private static final int BAD = -1, STATE = -2, FULL = -3, NONE = -9;
    private static final String SEVEN = "p;p;p;p;p;p;p;";
    private static final String NINE = "r0 1 1;r0 1 2;r0 1 3;r0 1 4;r0 1 5;r0 1 6;r0 1 7;r0 1 8;r1 0 9;";
    private static final String SIX = "h0 0 9;h0 1 0;h0 2 1;h0 3 2;h0 4 3;h0 0 4;";
    private static final String ITEM_LETTERS = "prhlgo";

    private final Edges edges;

    TaleEdges(Edges edges) {
        this.edges = edges;
    }

    void run() {
        edges.part("Terms");
        limits();
        tokens();
        faults();
        readAnew();
        promises();
    }

    private void limits() {
        edges.edge("(7 of them at most; 0 is HOME)", () -> {
            HourWell x = Check.told(SEVEN);
            edges.due("count(0)", x.count(0), 7);
            edges.due("now(0)", x.now(0), 0);
            edges.row("place(.., 0)", 5, p -> x.place(p, 0), 9, 9, BAD);
            edges.fault(SEVEN, "p;");
        });
        edges.edge("ROADS 0 .. (9 of them at most) between two unlike PLACES", () -> {
            HourWell x = Check.told("p;p;" + NINE);
            edges.due("count(1)", x.count(1), 9);
            edges.row("road(.., 2)", 7, r -> x.road(r, 2), 8, 9, BAD);
            edges.fault("p;p;" + NINE, "r0 1 1;");
            edges.fault("p;p;r0 ", "0 1;");
            edges.fault("p;p;r1 ", "1 1;");
            edges.fault("p;r0 ", "0 1;");
            HourWell far = Check.told(SEVEN + "r6 0 1;r5 6 1;");
            edges.due("the last place's road", far.walks(0), 6);
            edges.due("from the last place on", far.walks(1), 5);
        });
        edges.edge("HOURS (1 .. 9), both ways", () -> {
            edges.fault("p;p;r0 1 ", "0;");
            edges.fault("p;p;r0 1 ", "10;");
            for (int hours = 1; hours <= 9; hours++) {
                HourWell x = Check.told("p;p;r0 1 " + hours + ";");
                edges.due("there", x.walks(0), 1);
                edges.due("hours there", x.now(1), hours);
                edges.due("back", x.walks(0), 0);
                edges.due("hours back", x.now(1), 2 * hours);
            }
        });
        edges.edge("THINGS 0 .. 4", () -> {
            for (int t = 0; t <= 4; t++) {
                edges.tells("p;p;h0 " + t + " " + t + ";l1 " + t + ";", 4);
                HourWell x = Check.told("p;h0 " + t + " 9;");
                edges.due("asks(0)", x.asks(0), 1 << t);
                edges.due("soonest(" + t + ", -1)", x.soonest(t, -1), 0);
            }
            edges.fault("p;h0 ", "5 9;");
            edges.fault("p;p;l1 ", "5;");
            HourWell x = Check.told("p;h0 0 9;h0 4 9;");
            edges.row("soonest(.., -1)", -1, t -> x.soonest(t, -1), BAD, 0, NONE, NONE, NONE, 0, BAD);
        });
        edges.edge("HOSTS 0 .. (6 of them at most) at a PLACE", () -> {
            HourWell x = Check.told("p;" + SIX);
            edges.due("count(2)", x.count(2), 6);
            edges.row("host(.., 2)", 4, h -> x.host(h, 2), 3, 4, BAD);
            edges.fault("p;" + SIX, "h0 0 9;");
            edges.tells(SEVEN + "h6 0 9;", 8);
            edges.fault(SEVEN + "h", "7 0 9;");
        });
        edges.edge(": the THING that he GIVES, the one that he ASKS one to have (9: none; he does not take it)", () -> {
            for (int asks = 5; asks <= 8; asks++) edges.fault("p;h0 0 ", asks + ";");
            edges.fault("p;h0 0 ", "10;");
            edges.fault("p;h0 ", "9 9;");
            HourWell x = Check.told("p;h0 0 9;h0 1 0;h0 2 4;");
            edges.row("host(.., 2)", 0, h -> x.host(h, 2), 9, 0, 4);
            edges.due("who asks, of one who has nothing", x.asks(1), STATE);
            edges.due("who asks none", x.asks(0), 1);
            edges.due("who asks what one has: it is not taken", x.asks(1), 3);
        });
        lionsAndGates();
    }

    private void lionsAndGates() {
        edges.edge("LIONS: at a PLACE there may be one: the THING that he TAKES from who enters.", () -> {
            HourWell none = Check.told("p;p;p;r0 1 1;r1 2 1;l2 0;h1 0 9;");
            edges.due("a place without", none.walks(0), 1);
            edges.due("a place with one, nothing for him", none.walks(1), STATE);
            HourWell x = Check.told("p;p;p;r0 1 1;r1 2 1;r0 1 1;l1 0;l2 1;h0 0 9;h0 1 9;");
            edges.due("place(1, 0)", x.place(1, 0), 0);
            edges.due("place(2, 0)", x.place(2, 0), 1);
            x.asks(0);
            x.asks(1);
            x.walks(0);
            edges.due("the first takes his", x.now(3), 2);
            x.walks(1);
            edges.due("the second takes his", x.now(3), 0);
            edges.due("who left must have it again", x.walks(1), STATE);
            edges.fault("p;p;p;l1 0;l2 0;l", "1 0;");
        });
        edges.edge("GATES: at a PLACE there may be one: it is open from an HOUR of the day (0 .. 23) on, so many HOURS (1 .. 24).", () -> {
            edges.fault("p;p;g1 ", "24 1;");
            edges.fault("p;p;g1 0 ", "0;");
            edges.fault("p;p;g1 23 ", "25;");
            edges.fault("p;p;g1 0 24;g", "1 0 24;");
            int[][] gates = {{0, 1}, {0, 24}, {23, 1}, {23, 24}, {23, 2}, {1, 23}, {13, 12}};
            for (int[] gate : gates) opens(gate[0], gate[1]);
        });
        edges.edge("HOME has neither.", () -> {
            edges.fault("p;p;l", "0 1;");
            edges.fault("p;p;g", "0 1 1;");
            HourWell x = Check.told("p;p;l1 0;g1 1 1;");
            edges.row("place(0, ..)", 0, what -> x.place(0, what), 9, NONE, 24);
        });
        edges.edge("OFF: by how many hours the castle's clock may be wrong (0 .. 6; 0 at first).", () -> {
            for (int off = 0; off <= 6; off++) edges.due("count(3)", Check.told("o" + off + ";").count(3), off);
            edges.fault("o", "7;");
            edges.fault("o", "60;");
            edges.due("new count(3)", new HourWell().count(3), 0);
            edges.due("count(3), not told", Check.told("p;").count(3), 0);
        });
    }

    /** Each hour of two days: a gate is open round midnight, too. */
    private void opens(int from, int hours) {
        HourWell x = Check.told("p;p;r0 1 1;g1 " + from + " " + hours + ";");
        for (int hour = 1; hour <= 48; hour++) {
            boolean isOpen = false;
            for (int k = 0; k < hours; k++) isOpen |= (from + k) % 24 == hour % 24;
            edges.due("the gate from " + from + ", " + hours + " hours, at " + hour, x.now(4), isOpen ? 1 : 0);
            x.waits();
        }
    }

    private void tokens() {
        edges.edge("They are a text (200 bytes at most), read byte by byte", () -> {
            String most = "p;p;" + NINE + SIX.replace("h", "h ") + "g1 0 24;l1 0;o 6 ;";
            StringBuilder text = new StringBuilder(most);
            while (text.length() < 200) text.insert(0, ' ');
            edges.tells(text.toString(), 20);
            text.setCharAt(199, ' ');
            edges.tells(text.toString(), -210);
            text.setCharAt(199, 'p');
            edges.tells(text.toString(), -209);
            String blanks = " ".repeat(198);
            edges.tells("p;" + blanks, 1);
            edges.tells(blanks + "p;", 1);
            edges.tells(blanks + "p ", -210);
            edges.tells(blanks + " p", -210);
            edges.tells(blanks + "o6", -210);
            edges.tells(blanks + "o7", -209);
            edges.tells("o" + "0".repeat(199), -11);
            edges.tells("p".repeat(200), -10);
        });
        edges.edge(", blanks (32) ahead of, between and behind TOKENS as may be (none needed where TOKENS end without)", () -> {
            edges.tells("p;p;r0 1 2;h0 0 9;l1 0;g1 0 1;o1;", 7);
            edges.tells("  p  ;  p  ;  r  0  1  2  ;  o  1  ;  ", 4);
            edges.fault("p;p;r", "01 2;");
            edges.fault("p;p;r0 ", "12;");
            edges.fault("p;p;r0 1 2 ", "2;");
            for (int c : new int[] {9, 10, 13, 31, 33, 160}) edges.fault("p;", (char) c + "p;");
        });
        edges.edge("; ITEMS (none, too), each letters and what is told, ended by ;", () -> {
            edges.tells("", 0);
            edges.tells(" ", 0);
            edges.tells("p;", 1);
            edges.fault("p", "");
            edges.fault("p;p", "");
            edges.fault("", ";");
            edges.fault("p;", ";");
            edges.fault("p ", "1;");
        });
        edges.edge(": p (a place) ; r A B H (a road; places told ahead) ; h P G A (a host) ; l P T (a lion) ; g P O L (a gate): P told ahead, too"
            + " ; o N (off, once at most).", () -> {
                placesToldAhead();
                tooFewOrManyNumbers();
            });
        edges.edge("TOKENS are letters a .. z side by side, NUMBERS and ; .", this::everyByte);
    }

    private void placesToldAhead() {
        edges.fault("r", "0 1 1;p;p;");
        edges.fault("p;r", "1 0 1;p;");
        edges.fault("p;r0 ", "1 1;p;");
        edges.fault("h", "0 0 9;p;");
        edges.fault("p;h", "1 0 9;p;");
        edges.fault("p;l", "1 0;p;");
        edges.fault("p;g", "1 0 1;p;");
        edges.tells("p;h0 0 9;p;h1 0 9;r1 0 1;p;l2 0;g2 0 1;r0 2 1;", 9);
        edges.fault("o0;", "o0;");
        edges.fault("p;o6;p;", "o");
    }

    private void tooFewOrManyNumbers() {
        String[] items = {"p", "r 0 1 1", "h 0 0 9", "l 1 0", "g 1 0 1", "o 1"};
        for (String item : items) {
            edges.tells("p;p;" + item + ";", 3);
            edges.fault("p;p;" + item + " ", "0;");
            edges.fault("p;p;" + item + " ", "p;");
            for (int at = item.indexOf(' '); at >= 0; at = item.indexOf(' ', at + 1)) {
                edges.fault("p;p;" + item.substring(0, at), ";");
                edges.fault("p;p;" + item.substring(0, at) + " ", "p;");
            }
        }
    }

    /** Each byte alone, behind letters, behind a number and behind an item. */
    private void everyByte() {
        for (int c = 0; c <= 255; c++) {
            String sign = String.valueOf((char) c);
            boolean isLetter = c >= 97 && c <= 122;
            boolean isDigit = c >= 48 && c <= 57;
            boolean begins = ITEM_LETTERS.indexOf(c) >= 0;
            edges.tells(sign, c == 32 ? 0 : begins ? -11 : -10);
            edges.tells("o" + sign, c == 32 ? -12 : isLetter ? -10 : c >= 48 && c <= 54 ? -12 : -11);
            edges.tells("o6" + sign, c == 32 ? -13 : c == 59 ? 1 : isDigit ? -11 : -12);
            edges.tells("o6;" + sign, c == 32 ? 1 : begins && c != 'o' ? -14 : -13);
        }
    }

    private void faults() {
        edges.edge("FAULT: the place of the first byte of the first TOKEN that can't stand there", () -> {
            edges.fault("", "x!;p");
            edges.fault("p;p;r0 ", "77 88 99;");
            edges.fault("  p  ;  ", "xyz  ; ?");
            edges.fault("p;p;g1 ", "24 25;g0");
        });
        edges.edge("(letters that begin no ITEM;", () -> {
            for (char a = 'a'; a <= 'z'; a++) {
                if (ITEM_LETTERS.indexOf(a) < 0) edges.fault("p;", a + ";");
                for (char b : ITEM_LETTERS.toCharArray()) edges.fault("p;", "" + b + a + ";");
            }
        });
        edges.edge("an eighth place, a tenth road, a seventh host, o again: at its letters;", () -> {
            edges.fault(SEVEN, "p");
            edges.fault(SEVEN + " ", "p 1;");
            edges.fault("p;p;" + NINE, "r");
            edges.fault("p;p;" + NINE + " ", "r 9 9 0;");
            edges.fault("p;" + SIX, "h");
            edges.fault("p;" + SIX + " ", "h 9 9 8;");
            edges.fault("o1;", "o");
            edges.fault("o1;", "o7;");
            edges.fault("o0; ", "o 0;");
        });
        edges.edge("B that is A;", () -> {
            edges.fault("p;p;r0 ", "0 1;");
            edges.fault("p;p;p;r 2   ", "2 0;");
            edges.fault("p;p;r1 ", "1");
            edges.fault("p;r", "1 1 1;");
        });
        edges.edge("a lion or a gate at HOME, a lion where there is a lion, a gate where there is a gate (at the P);", () -> {
            edges.fault("p;l ", "0 9;");
            edges.fault("p;g ", "0 24 0;");
            edges.fault("p;l", "0");
            edges.fault("p;g", "0");
            edges.fault("p;p;l1 0;l ", "1 9;");
            edges.fault("p;p;l1 4;l", "1");
            edges.fault("p;p;g1 0 24;g ", "1 24 0;");
            edges.fault("p;p;g1 0 24;g", "1");
            edges.tells("p;p;g1 0 24;l1 0;", 4);
            edges.tells("p;p;l1 4;g1 23 1;", 4);
        });
        edges.edge("a NUMBER beyond what it may be, too);", () -> {
            edges.fault("p;p;r", "2 0 1;");
            edges.fault("p;p;r0 ", "2 1;");
            edges.fault("p;p;r0 1 ", "0;");
            edges.fault("p;p;r0 1 ", "10;");
            edges.fault("p;p;h", "2 0 9;");
            edges.fault("p;p;h0 ", "5 9;");
            edges.fault("p;p;h0 0 ", "5;");
            edges.fault("p;p;h0 0 ", "99;");
            edges.fault("p;p;l", "2 0;");
            edges.fault("p;p;l1 ", "5;");
            edges.fault("p;p;g", "2 0 1;");
            edges.fault("p;p;g1 ", "24 1;");
            edges.fault("p;p;g1 0 ", "0;");
            edges.fault("p;p;g1 0 ", "25;");
            edges.fault("o", "7;");
        });
        edges.edge("of a byte that begins none, a NUMBER above 99 or with a 0 ahead of others, that TOKEN's;", () -> {
            edges.fault("p;p;r0", "!1 1;");
            edges.fault("p;p;r0 1 ", "-1;");
            edges.fault("p;p;g1 ", "100 1;");
            edges.fault("p;p;g1 ", "00 1;");
            edges.fault("p;p;g1 ", "01 1;");
            edges.fault("p;p;g1 0 ", "024;");
            edges.fault("p;p;g1 0 ", "010;");
            edges.fault("o", "256;");
            edges.fault("o", "4294967297;");
            edges.fault("o", "18446744073709551617;");
            edges.fault("", "100");
            edges.fault("", "00");
            edges.fault("p", "007;");
            edges.tells("p;p;g1 10 20;", 3);
        });
        edges.edge("the text's length, if it ends too early.", () -> {
            String whole = "p;p ; r 0 1 9;h1 0 9;l1 4 ;g 1 0 1;o6;";
            for (int length = 1; length <= whole.length(); length++) {
                String text = whole.substring(0, length);
                boolean isWhole = text.trim().endsWith(";");
                int items = text.length() - text.replace(";", "").length();
                edges.tells(text, isWhole ? items : -10 - length);
                edges.tells(text + "  ", isWhole ? items : -12 - length);
            }
        });
    }

    private void readAnew() {
        edges.edge("(Read anew: as told (what is not told as at first), at HOME, no SWAPS, nothing TASTED or to be UNDONE, IMAGES are gone;"
            + " THE TRACE stays.)", () -> {
                HourWell x = busy();
                long trace = x.trace();
                x.clear();
                edges.due("tale()", Check.tell(x, "p;p;p;"), 3);
                edges.row("count(..)", 0, x::count, 3, 0, 0, 0, 0, 0, 0, 0);
                edges.row("now(..)", 0, x::now, 0, 0, 0, 0, 0, 0);
                edges.row("place(1, ..)", 0, what -> x.place(1, what), 9, NONE, 24);
                edges.row("place(2, ..)", 0, what -> x.place(2, what), 9, NONE, 24);
                edges.due("undo()", x.undo(), STATE);
                edges.row("back(..)", 0, x::back, STATE, STATE);
                edges.due("trace()", x.trace(), trace);
                edges.due("soonest(0, -1)", x.soonest(0, -1), NONE);
                Check.tell(x, "p;p;r0 1 1;h1 0 9;");
                edges.due("soonest(0, -1) of another tale", x.soonest(0, -1), 2);
                Check.tell(x, "p;p;r0 1 2;h1 0 9;");
                edges.due("soonest(0, -1) of yet another", x.soonest(0, -1), 4);
                edges.due("tale() of nothing", x.tale(), 0);
                edges.row("now(..) then", 0, x::now, NONE, 0, 0, 0, 0, 0);
                edges.due("place(0, 0) then", x.place(0, 0), BAD);
            });
        edges.edge("Refused, and nothing changes, the first of these: BAD (a number is not as told, or there is no such thing), STATE (as told), FULL.",
            this::refusals);
        edges.edge("What none is, where a number may be below 0.", () -> {
            edges.due("NO", HourWell.NO, -1000000);
            edges.due("mark() of no host", new HourWell().mark(2, 0), -1000000);
        });
        edges.edge("The constants:", () -> {
            edges.due("BAD", HourWell.BAD, -1);
            edges.due("STATE", HourWell.STATE, -2);
            edges.due("FULL", HourWell.FULL, -3);
            edges.due("NONE", HourWell.NONE, -9);
        });
    }

    /** He is at 1 in hour 5 with things 0 and 1; both images are kept, and there is some of all else. */
    static HourWell busy() {
        HourWell x = Check.told("p;p;p;r0 1 2;r1 2 3;r0 2 9;h0 0 9;h1 1 0;h2 2 1;l2 1;g1 0 23;o2;");
        x.asks(0);
        Check.waits(x, 2);
        x.walks(0);
        x.keep(0);
        x.asks(1);
        x.keep(1);
        x.waits();
        x.swaps(0, 1);
        x.swaps(1, 2);
        x.tastes(0, 1);
        x.mark(3, 1);
        for (char c : "p;o4;".toCharArray()) x.type(c);
        return x;
    }

    /** As busy(), with a full text, six swaps and six tastes. */
    static HourWell full() {
        HourWell x = busy();
        for (int k = x.count(7); k < 200; k++) x.type(' ');
        for (int k = x.count(4); k < 6; k++) x.swaps(3, 4);
        for (int k = x.count(5); k < 6; k++) x.tastes(0, 1);
        return x;
    }

    private void refusals() {
        int[] beyond = {-1, 9, 256, Integer.MIN_VALUE, Integer.MAX_VALUE};
        for (int k : beyond) {
            if (k != 9) edges.leaves("type(" + k + ")", TaleEdges::full, x -> x.type(k), BAD);
            edges.leaves("place(" + k + ", 0)", TaleEdges::busy, x -> x.place(k, 0), BAD);
            edges.leaves("road(" + k + ", 0)", TaleEdges::busy, x -> x.road(k, 0), BAD);
            edges.leaves("host(" + k + ", 0)", TaleEdges::busy, x -> x.host(k, 0), BAD);
            edges.leaves("walks(" + k + ")", TaleEdges::busy, x -> x.walks(k), BAD);
            edges.leaves("asks(" + k + ")", TaleEdges::busy, x -> x.asks(k), BAD);
            edges.leaves("now(" + k + ")", TaleEdges::busy, x -> x.now(k), BAD);
            edges.leaves("soonest(" + k + ", 0)", TaleEdges::busy, x -> x.soonest(k, 0), BAD);
            edges.leaves("latest(" + k + ", 0)", TaleEdges::busy, x -> x.latest(k, 0), BAD);
            edges.leaves("without(" + k + ", 0)", TaleEdges::busy, x -> x.without(k, 0), BAD);
            edges.leaves("robbed(0, " + k + ")", TaleEdges::busy, x -> x.robbed(0, k), BAD);
            edges.leaves("sure(" + k + ", 0)", TaleEdges::busy, x -> x.sure(k, 0), BAD);
            edges.leaves("odds(1, 0, " + k + ")", TaleEdges::busy, x -> x.odds(1, 0, k), BAD);
            edges.leaves("swaps(0, " + k + ")", TaleEdges::full, x -> x.swaps(0, k), BAD);
            edges.leaves("tastes(" + k + ", 0)", TaleEdges::full, x -> x.tastes(k, 0), BAD);
            edges.leaves("lie(" + k + ", 0)", TaleEdges::busy, x -> x.lie(k, 0), BAD);
            edges.leaves("mark(" + k + ", 0)", TaleEdges::busy, x -> x.mark(k, 0), HourWell.NO);
            edges.leaves("mark(0, " + k + ")", TaleEdges::busy, x -> x.mark(0, k), HourWell.NO);
            edges.leaves("keep(" + k + ")", TaleEdges::busy, x -> x.keep(k), BAD);
            edges.leaves("back(" + k + ")", TaleEdges::busy, x -> x.back(k), BAD);
            edges.leaves("count(" + k + ")", TaleEdges::busy, x -> x.count(k), BAD);
        }
        edges.leaves("walks(2), not there", TaleEdges::busy, x -> x.walks(2), STATE);
        edges.leaves("asks(2), not there", TaleEdges::busy, x -> x.asks(2), STATE);
        edges.leaves("asks(1), who gave it", TaleEdges::busy, x -> x.asks(1), STATE);
        edges.leaves("undo(), none", () -> Check.told("p;h0 0 9;"), HourWell::undo, STATE);
        edges.leaves("back(1), not kept", () -> Check.told("p;h0 0 9;"), x -> x.back(1), STATE);
        edges.leaves("waits(), no places", HourWell::new, HourWell::waits, STATE);
        edges.leaves("type(0) to a full text", TaleEdges::full, x -> x.type(0), FULL);
        edges.leaves("swaps(0, 1) of too many", TaleEdges::full, x -> x.swaps(0, 1), FULL);
        edges.leaves("tastes(0, 0) of too many", TaleEdges::full, x -> x.tastes(0, 0), FULL);
    }

    private void promises() {
        edges.part("Promise 1");
        edges.edge(": As told; no PLACES.", () -> {
            HourWell x = new HourWell();
            edges.row("count(..)", 0, x::count, 0, 0, 0, 0, 0, 0, 0, 0);
            edges.row("now(..)", 0, x::now, NONE, 0, 0, 0, 0, 0);
            edges.due("trace()", x.trace(), 0);
            edges.due("undo()", x.undo(), STATE);
            edges.row("back(..)", 0, x::back, STATE, STATE);
            edges.row("place(.., 0)", 0, p -> x.place(p, 0), BAD, BAD);
        });
        edges.part("Promise 2");
        edges.edge(": A byte (0 .. 255) comes to THE TEXT: how many it has. BAD; FULL.", () -> {
            HourWell x = new HourWell();
            edges.row("type(..)", -2, x::type, BAD, BAD, 1, 2);
            edges.row("type(..)", 254, x::type, 3, 4, BAD, BAD);
            for (int k = 5; k <= 200; k++) edges.due("type(32)", x.type(32), k);
            edges.row("type(..) to 200 bytes", -1, x::type, BAD, FULL);
            edges.row("type(..) to 200 bytes", 255, x::type, FULL, BAD);
            edges.due("count(7)", x.count(7), 200);
            x.clear();
            edges.due("type(0) behind clear()", x.type(0), 1);
        });
        edges.part("Promise 3");
        edges.edge(": THE TEXT is empty: how many bytes it had.", () -> {
            HourWell x = full();
            edges.due("clear() of 200", x.clear(), 200);
            edges.due("clear() of none", x.clear(), 0);
            edges.due("type(112)", x.type(112), 1);
            edges.due("clear() of one", x.clear(), 1);
            edges.due("tale() of none", x.tale(), 0);
            edges.due("tale() of letters and letters", Check.tell(x, "px"), -10);
            x.clear();
            edges.due("tale() of letters alone: what was cleared is gone", Check.tell(x, "p"), -11);
            x.clear();
            edges.due("tale() of a number too great", Check.tell(x, "o12;"), -11);
            x.clear();
            edges.due("tale() of its beginning: what was cleared is gone", Check.tell(x, "o1"), -12);
        });
        taleItself();
        toldThings();
    }

    private void taleItself() {
        edges.part("Promise 4");
        edges.edge(": THE TEXT tells all, and is empty then: how many ITEMS.", () -> {
            HourWell x = busy();
            edges.due("tale()", x.tale(), 2);
            edges.row("count(..)", 0, x::count, 1, 0, 0, 4, 0, 0, 0, 0);
            edges.due("tale() of none", x.tale(), 0);
            edges.row("count(..)", 0, x::count, 0, 0, 0, 0, 0, 0, 0, 0);
            edges.tells(SEVEN + NINE + SIX + "l1 0;l2 0;l3 0;l4 0;l5 0;l6 0;o6;", 29);
            edges.tells(SEVEN + SIX + "l1 0;l2 0;l3 0;l4 0;l5 0;l6 0;g1 0 1;g2 0 1;g3 0 1;g4 0 1;g5 0 1;g6 0 1;o6;", 26);
        });
        edges.edge("-10 less FAULT: nothing changes (THE TEXT, too, stays).", () -> {
            edges.leaves("tale() with a fault at 0", () -> faulty("x;"), HourWell::tale, -10);
            edges.leaves("tale() with a fault behind all that can be told",
                () -> faulty("p;p;p;p;r0 3 1;h3 4 9;l1 3;l2 2;g1 7 7;g2 8 8;o1;p"), HourWell::tale, -60);
            HourWell x = faulty("p;p");
            edges.due("tale() that ends too early", x.tale(), -13);
            edges.due("the text goes on", x.type(';'), 4);
            edges.due("tale()", x.tale(), 2);
        });
    }

    private static HourWell faulty(String text) {
        HourWell x = busy();
        x.clear();
        for (char c : text.toCharArray()) x.type(c);
        return x;
    }

    private void toldThings() {
        edges.part("Promise 5");
        edges.edge(": Of a PLACE: 0 what its LION TAKES (9: no lion), 1 from when its GATE is open (NONE: no gate), 2 how many HOURS (24: no gate). BAD.", () -> {
            HourWell x = Check.told("p;p;p;p;l1 0;l2 4;g2 0 1;g3 23 24;");
            edges.row("place(0, ..)", -1, what -> x.place(0, what), BAD, 9, NONE, 24, BAD);
            edges.row("place(1, ..)", -1, what -> x.place(1, what), BAD, 0, NONE, 24, BAD);
            edges.row("place(2, ..)", -1, what -> x.place(2, what), BAD, 4, 0, 1, BAD);
            edges.row("place(3, ..)", -1, what -> x.place(3, what), BAD, 9, 23, 24, BAD);
            edges.row("place(.., 2)", -1, p -> x.place(p, 2), BAD, 24, 24, 1, 24, BAD);
            HourWell most = Check.told(SEVEN + "l6 3;g6 1 2;");
            edges.row("place(6, ..)", 0, what -> most.place(6, what), 3, 1, 2);
        });
        edges.part("Promise 6");
        edges.edge(": Of a ROAD: 0, 1 its PLACES as told, 2 HOURS. BAD.", () -> {
            HourWell x = Check.told(SEVEN + "r6 0 1;r0 6 9;");
            edges.row("road(0, ..)", -1, what -> x.road(0, what), BAD, 6, 0, 1, BAD);
            edges.row("road(1, ..)", -1, what -> x.road(1, what), BAD, 0, 6, 9, BAD);
            edges.row("road(.., 2)", -1, r -> x.road(r, 2), BAD, 1, 9, BAD);
            edges.due("road(0, 0) of none", new HourWell().road(0, 0), BAD);
        });
        edges.part("Promise 7");
        edges.edge(": Of a HOST: 0 his PLACE, 1 what he GIVES, 2 what he ASKS (9: nothing). BAD.", () -> {
            HourWell x = Check.told(SEVEN + "h6 4 9;h0 0 4;");
            edges.row("host(0, ..)", -1, what -> x.host(0, what), BAD, 6, 4, 9, BAD);
            edges.row("host(1, ..)", -1, what -> x.host(1, what), BAD, 0, 0, 4, BAD);
            edges.row("host(.., 1)", -1, h -> x.host(h, 1), BAD, 4, 0, BAD);
            edges.due("host(0, 0) of none", new HourWell().host(0, 0), BAD);
        });
    }
}

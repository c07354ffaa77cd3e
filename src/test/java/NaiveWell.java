import java.util.ArrayDeque;
import java.util.ArrayList;
import java.util.Arrays;
import java.util.HashMap;
import java.util.HashSet;
import java.util.List;
import java.util.Map;
import java.util.Set;
import java.util.TreeSet;

/** The document told again in the slowest and plainest way, to be held against HourWell. */
final class NaiveWell {
    record Road(int a, int b, int hours) {}
    record Host(int place, int gives, int asks) {}
    record Gate(int from, int hours) {}
    record Token(String word, int at) {}
    record State(int place, int hour, Set<Integer> things) {}
    record Image(State state, List<State> past) {}
    record Pair(int a, int b) {}

    /** What a text tells; only here because a fault must leave the old one as it was. */
    static final class Told {
        int places = 0;
        List<Road> roads = new ArrayList<>();
        List<Host> hosts = new ArrayList<>();
        Map<Integer, Integer> lions = new HashMap<>();
        Map<Integer, Gate> gates = new HashMap<>();
        Integer off = null;
        int items = 0;
    }

    static final class Fault extends Exception {
        private static final long serialVersionUID = 1L;
        final int at;

        Fault(int at) {
            this.at = at;
        }
    }

    private String text = "";
    private Told told = new Told();
    private State state = new State(0, 0, Set.of());
    private List<State> past = new ArrayList<>();
    private final Image[] images = new Image[2];
    private final List<Pair> swaps = new ArrayList<>();
    private final List<Pair> tasted = new ArrayList<>();
    private long trace = 0;

    // ---- the tale

    int type(int c) {
        if (c < 0 || c > 255) return -1;
        if (text.length() == 200) return -3;
        text += (char) c;
        return text.length();
    }

    int clear() {
        int had = text.length();
        text = "";
        return had;
    }

    int tale() {
        try {
            told = read(text);
        } catch (Fault fault) {
            return -10 - fault.at;
        }
        text = "";
        state = new State(0, 0, Set.of());
        past = new ArrayList<>();
        Arrays.fill(images, null);
        swaps.clear();
        tasted.clear();
        return told.items;
    }

    private static ArrayDeque<Token> split(String text) {
        ArrayDeque<Token> tokens = new ArrayDeque<>();
        java.util.regex.Matcher m = java.util.regex.Pattern.compile("[a-z]+|[0-9]+|(?s:[^ ])").matcher(text);
        while (m.find()) tokens.add(new Token(m.group(), m.start()));
        tokens.add(new Token("", text.length()));
        return tokens;
    }

    private static int number(ArrayDeque<Token> tokens, Set<Integer> may) throws Fault {
        Token token = tokens.poll();
        for (int n : may) if (token.word().equals(Integer.toString(n))) return n;
        throw new Fault(token.at());
    }

    private static Set<Integer> from(int least, int most) {
        Set<Integer> all = new TreeSet<>();
        for (int n = least; n <= most; n++) all.add(n);
        return all;
    }

    private static Told read(String text) throws Fault {
        Told t = new Told();
        ArrayDeque<Token> tokens = split(text);
        while (tokens.peek().at() < text.length()) {
            Token letters = tokens.poll();
            Set<Integer> places = from(0, t.places - 1);
            Set<Integer> noHome = from(1, t.places - 1);
            boolean isFull = false;
            switch (letters.word()) {
                case "p" -> {
                    isFull = t.places == 7;
                    t.places++;
                }
                case "r" -> {
                    isFull = t.roads.size() == 9;
                    if (isFull) break;
                    int a = number(tokens, places);
                    places.remove(a);
                    int b = number(tokens, places);
                    t.roads.add(new Road(a, b, number(tokens, from(1, 9))));
                }
                case "h" -> {
                    isFull = t.hosts.size() == 6;
                    if (isFull) break;
                    int p = number(tokens, places);
                    int g = number(tokens, from(0, 4));
                    t.hosts.add(new Host(p, g, number(tokens, Set.of(0, 1, 2, 3, 4, 9))));
                }
                case "l" -> {
                    noHome.removeAll(t.lions.keySet());
                    int p = number(tokens, noHome);
                    t.lions.put(p, number(tokens, from(0, 4)));
                }
                case "g" -> {
                    noHome.removeAll(t.gates.keySet());
                    int p = number(tokens, noHome);
                    int o = number(tokens, from(0, 23));
                    t.gates.put(p, new Gate(o, number(tokens, from(1, 24))));
                }
                case "o" -> {
                    isFull = t.off != null;
                    if (isFull) break;
                    t.off = number(tokens, from(0, 6));
                }
                default -> throw new Fault(letters.at());
            }
            if (isFull) throw new Fault(letters.at());
            Token stop = tokens.poll();
            if (!stop.word().equals(";")) throw new Fault(stop.at());
            t.items++;
        }
        return t;
    }

    int place(int p, int what) {
        if (p < 0 || p >= told.places || what < 0 || what > 2) return -1;
        Gate gate = told.gates.get(p);
        if (what == 0) return told.lions.getOrDefault(p, 9);
        if (what == 1) return gate == null ? -9 : gate.from();
        return gate == null ? 24 : gate.hours();
    }

    int road(int r, int what) {
        if (r < 0 || r >= told.roads.size() || what < 0 || what > 2) return -1;
        Road road = told.roads.get(r);
        return new int[] {road.a(), road.b(), road.hours()}[what];
    }

    int host(int h, int what) {
        if (h < 0 || h >= told.hosts.size() || what < 0 || what > 2) return -1;
        Host host = told.hosts.get(h);
        return new int[] {host.place(), host.gives(), host.asks()}[what];
    }

    // ---- the journey

    private boolean isOpen(int p, int hour) {
        Gate gate = told.gates.get(p);
        if (gate == null) return true;
        for (int k = 0; k < gate.hours(); k++) {
            if ((gate.from() + k) % 24 == (hour + 48) % 24) return true;
        }
        return false;
    }

    private State walked(State s, int r) {
        Road road = told.roads.get(r);
        if (road.a() != s.place() && road.b() != s.place()) return null;
        int to = road.a() == s.place() ? road.b() : road.a();
        int hour = s.hour() + road.hours();
        Set<Integer> things = new TreeSet<>(s.things());
        if (!isOpen(to, hour)) return null;
        if (told.lions.containsKey(to) && !things.remove(told.lions.get(to))) return null;
        return new State(to, hour, things);
    }

    private State asked(State s, int h) {
        Host host = told.hosts.get(h);
        if (host.place() != s.place() || s.things().contains(host.gives())) return null;
        if (host.asks() != 9 && !s.things().contains(host.asks())) return null;
        Set<Integer> things = new TreeSet<>(s.things());
        things.add(host.gives());
        return new State(s.place(), s.hour(), things);
    }

    private void become(State s) {
        past.add(state);
        if (past.size() > 12) past.remove(0);
        state = s;
    }

    private static int bits(Set<Integer> numbers) {
        int bits = 0;
        for (int n : numbers) bits += 1 << n;
        return bits;
    }

    int walks(int r) {
        if (r < 0 || r >= told.roads.size()) return -1;
        State next = walked(state, r);
        if (next == null || next.hour() > 9999) return -2;
        become(next);
        return state.place();
    }

    int waits() {
        if (told.places == 0 || state.hour() == 9999) return -2;
        become(new State(state.place(), state.hour() + 1, state.things()));
        return state.hour();
    }

    int asks(int h) {
        if (h < 0 || h >= told.hosts.size()) return -1;
        State next = asked(state, h);
        if (next == null) return -2;
        become(next);
        return bits(state.things());
    }

    int undo() {
        if (past.isEmpty()) return -2;
        state = past.remove(past.size() - 1);
        return past.size();
    }

    int now(int what) {
        Set<Integer> can = new TreeSet<>();
        switch (what) {
            case 0: return told.places == 0 ? -9 : state.place();
            case 1: return state.hour();
            case 2: return state.hour() % 24;
            case 3: return bits(state.things());
            case 4:
                for (int r = 0; r < told.roads.size(); r++) {
                    State next = walked(state, r);
                    if (next != null && next.hour() <= 9999) can.add(r);
                }
                return bits(can);
            case 5:
                for (int h = 0; h < told.hosts.size(); h++) if (asked(state, h) != null) can.add(h);
                return bits(can);
            default: return -1;
        }
    }

    // ---- ways

    /** Of all rows of steps that end at home with the thing at that hour the first, whole; null: none. */
    private List<Integer> first(State s, int t, int end, Map<State, List<Integer>> known) {
        if (s.hour() > end) return null;
        if (known.containsKey(s)) return known.get(s);
        List<List<Integer>> rows = new ArrayList<>();
        if (s.place() == 0 && s.hour() == end && s.things().contains(t)) rows.add(List.of());
        State waited = new State(s.place(), s.hour() + 1, s.things());
        addRow(rows, 0, first(waited, t, end, known));
        for (int r = 0; r < told.roads.size(); r++) {
            State next = walked(s, r);
            if (next != null) addRow(rows, 1 + r, first(next, t, end, known));
        }
        for (int h = 0; h < told.hosts.size(); h++) {
            State next = asked(s, h);
            if (next != null) addRow(rows, 11 + h, first(next, t, end, known));
        }
        rows.sort((a, b) -> Arrays.compare(
            a.stream().mapToInt(Integer::intValue).toArray(), b.stream().mapToInt(Integer::intValue).toArray()));
        List<Integer> best = rows.isEmpty() ? null : rows.get(0);
        known.put(s, best);
        return best;
    }

    private static void addRow(List<List<Integer>> rows, int step, List<Integer> rest) {
        if (rest == null) return;
        List<Integer> row = new ArrayList<>();
        row.add(step);
        row.addAll(rest);
        rows.add(row);
    }

    /** Hour by hour all that can be, until he is at home with the thing. */
    private int hours(int t, int noRoad, int noHost) {
        if (told.places == 0) return -9;
        List<Set<State>> ahead = new ArrayList<>();
        for (int n = 0; n <= 60 + 9; n++) ahead.add(new HashSet<>());
        ahead.get(0).add(state);
        for (int n = 0; n <= 60; n++) {
            ArrayDeque<State> left = new ArrayDeque<>(ahead.get(n));
            while (!left.isEmpty()) {
                State s = left.poll();
                if (s.place() == 0 && s.things().contains(t)) return n;
                ahead.get(n + 1).add(new State(s.place(), s.hour() + 1, s.things()));
                for (int r = 0; r < told.roads.size(); r++) {
                    State next = r == noRoad ? null : walked(s, r);
                    if (next != null) ahead.get(next.hour() - state.hour()).add(next);
                }
                for (int h = 0; h < told.hosts.size(); h++) {
                    State next = h == noHost ? null : asked(s, h);
                    if (next != null && ahead.get(n).add(next)) left.add(next);
                }
            }
        }
        return -9;
    }

    int soonest(int t, int i) {
        if (t < 0 || t > 4 || i < -1 || i > 99) return -1;
        int hours = hours(t, -1, -1);
        if (hours == -9 || i == -1) return hours;
        List<Integer> row = first(state, t, state.hour() + hours, new HashMap<>());
        return i < row.size() ? row.get(i) : -9;
    }

    int latest(int t, int n) {
        if (t < 0 || t > 4 || n < 0 || n > 60) return -1;
        if (told.places == 0) return -9;
        Map<State, List<Integer>> known = new HashMap<>();
        for (int w = n; w >= 0; w--) {
            State later = new State(state.place(), state.hour() + w, state.things());
            if (first(later, t, state.hour() + n, known) != null) return w;
        }
        return -9;
    }

    int without(int t, int what) {
        if (t < 0 || t > 4 || what < 0 || what > 1) return -1;
        if (hours(t, -1, -1) == -9) return 0;
        Set<Integer> needed = new TreeSet<>();
        int all = what == 0 ? told.roads.size() : told.hosts.size();
        for (int k = 0; k < all; k++) {
            int hours = what == 0 ? hours(t, k, -1) : hours(t, -1, k);
            if (hours == -9) needed.add(k);
        }
        return bits(needed);
    }

    private boolean canBrotherBe(int from, int to, int hours) {
        if (hours < 0) return false;
        if (from == to) return true;
        for (Road road : told.roads) {
            if (road.a() == from && canBrotherBe(road.b(), to, hours - road.hours())) return true;
            if (road.b() == from && canBrotherBe(road.a(), to, hours - road.hours())) return true;
        }
        return false;
    }

    private int brotherHours(int from, int to) {
        int[] hours = new int[told.places];
        Arrays.fill(hours, 1000);
        hours[from] = 0;
        for (int round = 0; round < 20; round++) {
            for (Road road : told.roads) {
                hours[road.a()] = Math.min(hours[road.a()], hours[road.b()] + road.hours());
                hours[road.b()] = Math.min(hours[road.b()], hours[road.a()] + road.hours());
            }
        }
        return hours[to];
    }

    int robbed(int t, int from) {
        if (t < 0 || t > 4 || from < 0 || from >= told.places) return -1;
        int hours = hours(t, -1, -1);
        if (hours == -9) return -9;
        State s = state;
        for (int step : first(state, t, state.hour() + hours, new HashMap<>())) {
            State next;
            if (step == 0) {
                next = new State(s.place(), s.hour() + 1, s.things());
            } else if (step > 10) {
                next = asked(s, step - 11);
            } else {
                next = walked(s, step - 1);
                int gone = next.hour() - state.hour();
                boolean canBe = gone < 12 ? canBrotherBe(from, next.place(), gone) : brotherHours(from, next.place()) <= gone;
                if (s.things().contains(t) && canBe) return next.place();
            }
            s = next;
        }
        return -9;
    }

    // ---- clocks

    int sure(int p, int hour) {
        if (p < 0 || p >= told.places || hour < 0 || hour > 23) return -1;
        return odds(p, hour, 0) == 1 && odds(p, hour, 1) == 1 ? 1 : 0;
    }

    int odds(int p, int hour, int what) {
        if (p < 0 || p >= told.places || hour < 0 || hour > 23 || what < 0 || what > 1) return -1;
        int off = told.off == null ? 0 : told.off;
        int open = 0;
        int all = 0;
        for (int h = hour - off; h <= hour + off; h++) {
            all++;
            if (isOpen(p, h)) open++;
        }
        int divisor = java.math.BigInteger.valueOf(open).gcd(java.math.BigInteger.valueOf(all)).intValue();
        return (what == 0 ? open : all) / divisor;
    }

    // ---- cups

    int swaps(int a, int b) {
        if (a < 0 || a > 4 || b < 0 || b > 4 || a == b) return -1;
        if (swaps.size() == 6) return -3;
        swaps.add(new Pair(a, b));
        return swaps.size();
    }

    int tastes(int seat, int cup) {
        if (seat < 0 || seat > 4 || cup < 0 || cup > 4) return -1;
        if (tasted.size() == 6) return -3;
        tasted.add(new Pair(seat, cup));
        return tasted.size();
    }

    int clears() {
        int both = swaps.size() + tasted.size();
        swaps.clear();
        tasted.clear();
        return both;
    }

    private Set<List<Integer>> rows(int n) {
        Set<List<Integer>> rows = new HashSet<>();
        for (int done = 0; done < 1 << swaps.size(); done++) {
            List<Integer> row = new ArrayList<>(from(0, n - 1));
            for (int k = 0; k < swaps.size(); k++) {
                Pair swap = swaps.get(k);
                if ((done & 1 << k) != 0 && swap.a() < n && swap.b() < n) {
                    java.util.Collections.swap(row, swap.a(), swap.b());
                }
            }
            if (tasted.stream().allMatch(p -> p.a() < n && row.get(p.a()) == p.b())) rows.add(row);
        }
        return rows;
    }

    int lie(int n, int what) {
        if (n < 2 || n > 5 || what < -2 || what >= n) return -1;
        Set<List<Integer>> rows = rows(n);
        if (what == -1) return rows.size();
        List<Set<Integer>> cups = new ArrayList<>();
        for (int seat = 0; seat < n; seat++) {
            cups.add(new TreeSet<>());
            for (List<Integer> row : rows) cups.get(seat).add(row.get(seat));
        }
        if (what >= 0) {
            if (rows.isEmpty()) return -9;
            return cups.get(what).size() > 1 ? -5 : cups.get(what).iterator().next();
        }
        for (int many = 5; many > 1; many--) {
            for (int seat = 0; seat < n; seat++) if (cups.get(seat).size() == many) return seat;
        }
        return -9;
    }

    // ---- kinds, images

    private static final int[] ABOVE = {-1, 0, 0, 1, 2, 0};
    private static final int[] BRACKETS = {1, 10, 100, 1000, 10000, 100000};

    int mark(int kind, int h) {
        if (kind < 0 || kind > 5 || h < 0 || h >= told.hosts.size()) return -1000000;
        trace += BRACKETS[kind];
        Host host = told.hosts.get(h);
        int up = ABOVE[kind] < 0 ? 0 : mark(ABOVE[kind], h);
        return switch (kind) {
            case 0 -> host.gives();
            case 1 -> up + host.place();
            case 2 -> up - host.asks();
            case 3 -> up * 2;
            case 4 -> up + state.things().size();
            default -> up + state.hour() % 24;
        };
    }

    int keep(int image) {
        if (image < 0 || image > 1) return -1;
        images[image] = new Image(state, List.copyOf(past));
        return state.hour();
    }

    int back(int image) {
        if (image < 0 || image > 1) return -1;
        if (images[image] == null) return -2;
        state = images[image].state();
        past = new ArrayList<>(images[image].past());
        return state.hour();
    }

    int count(int what) {
        switch (what) {
            case 0: return told.places;
            case 1: return told.roads.size();
            case 2: return told.hosts.size();
            case 3: return told.off == null ? 0 : told.off;
            case 4: return swaps.size();
            case 5: return tasted.size();
            case 6: return past.size();
            case 7: return text.length();
            default: return -1;
        }
    }

    long trace() {
        return trace;
    }
}

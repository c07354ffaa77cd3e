import java.util.Arrays;

/**
 * A tale of places, roads, hosts, lions and gates, the son who goes through it, and what can be
 * known of his ways, of the castle's clock and of the cups on the table.
 */
public final class HourWell {
    public static final int BAD = -1, STATE = -2, FULL = -3, NONE = -9;
    public static final int NO = -1000000;

    private static final int MOST_BYTES = 200;
    private static final int MOST_PLACES = 7;
    private static final int MOST_ROADS = 9;
    private static final int MOST_HOSTS = 6;
    private static final int MOST_OFF = 6;
    private static final int MOST_ROAD_HOURS = 9;
    private static final int THINGS = 5;
    /** Stands for "no thing" where a host asks or a lion takes one. */
    private static final int NOTHING = 9;
    private static final int HOME = 0;

    private static final int DAY = 24;
    private static final int LAST_HOUR = 9999;
    private static final int MOST_UNDONE = 12;

    private static final int MOST_WAY_HOURS = 60;
    private static final int LAST_STEP_ASKED = 99;
    private static final int WAIT_STEP = 0;
    private static final int WALK_STEP = 1;
    private static final int ASK_STEP = 11;
    /** Sixty steps that take an hour, an ask for each thing, and one more for each that a lion took. */
    private static final int MOST_STEPS = 2 * MOST_WAY_HOURS + THINGS;
    /** A road or a host to be left out of the ways, where none is. */
    private static final int NOBODY = -1;

    private static final int LEAST_CUPS = 2;
    private static final int MOST_CUPS = 5;
    private static final int MOST_SWAPS = 6;
    private static final int MOST_TASTED = 6;
    /** Each of the swaps was done or not. */
    private static final int MOST_ROWS = 64;
    private static final int HOW_MANY = -1;
    private static final int BEST_TASTE = -2;
    private static final int NOT_ONE_ALONE = -5;

    private static final int FAULT_BASE = -10;

    private final int[] text;
    private int bytes;
    private final World world;
    /** A tale is read into this one first, so that a fault leaves the world as it was. */
    private final World draft;
    private final Reader reader;
    private final Son son;
    private final Son firstImage;
    private final Son secondImage;
    private final Ways ways;
    private final Cups cups;
    private long traced;

    public HourWell() {
        text = new int[MOST_BYTES];
        bytes = 0;
        world = new World();
        draft = new World();
        reader = new Reader(text, draft);
        son = new Son();
        firstImage = new Son();
        secondImage = new Son();
        ways = new Ways(world, son);
        cups = new Cups();
        traced = 0;
    }

    // ---- the tale

    public int type(int c) {
        if (!isWithin(c, 0, 255)) return BAD;
        if (bytes < 0 || bytes >= text.length) return FULL;
        text[bytes] = c;
        bytes++;
        return bytes;
    }

    public int clear() {
        int had = bytes;
        bytes = 0;
        return had;
    }

    public int tale() {
        int items = reader.readTale(bytes);
        if (items < 0) return items;
        bytes = 0;
        world.becomeLike(draft);
        son.startAnew();
        ways.forgetWay();
        firstImage.isKept = false;
        secondImage.isKept = false;
        cups.forgetAll();
        return items;
    }

    public int place(int p, int what) {
        if (!world.hasPlace(p)) return BAD;
        switch (what) {
            case 0: return world.lionAt(p);
            case 1: return world.gateFromAt(p);
            case 2: return world.gateHoursAt(p);
            default: return BAD;
        }
    }

    public int road(int r, int what) {
        if (!world.hasRoad(r)) return BAD;
        switch (what) {
            case 0: return world.roadStart(r);
            case 1: return world.roadEnd(r);
            case 2: return world.roadHours(r);
            default: return BAD;
        }
    }

    public int host(int h, int what) {
        if (!world.hasHost(h)) return BAD;
        switch (what) {
            case 0: return world.hostPlace(h);
            case 1: return world.hostGives(h);
            case 2: return world.hostAsks(h);
            default: return BAD;
        }
    }

    // ---- the journey

    public int walks(int r) {
        if (!world.hasRoad(r)) return BAD;
        if (!canWalk(r)) return STATE;
        int to = world.farEnd(r, son.place);
        son.remember();
        son.place = to;
        son.hour += world.roadHours(r);
        son.things = world.thingsInside(to, son.things);
        return to;
    }

    public int waits() {
        if (world.places == 0 || son.hour >= LAST_HOUR) return STATE;
        son.remember();
        son.hour++;
        return son.hour;
    }

    public int asks(int h) {
        if (!world.hasHost(h)) return BAD;
        if (!world.isGiven(h, son.place, son.things)) return STATE;
        son.remember();
        son.things |= 1 << world.hostGives(h);
        return son.things;
    }

    public int undo() {
        if (son.known == 0) return STATE;
        son.recall();
        return son.known;
    }

    public int now(int what) {
        switch (what) {
            case 0: return world.places == 0 ? NONE : son.place;
            case 1: return son.hour;
            case 2: return son.hour % DAY;
            case 3: return son.things;
            case 4: return openRoads();
            case 5: return givingHosts();
            default: return BAD;
        }
    }

    private boolean canWalk(int r) {
        int to = world.farEnd(r, son.place);
        int hour = son.hour + world.roadHours(r);
        return to != NONE && hour <= LAST_HOUR && world.letsIn(to, hour, son.things);
    }

    private int openRoads() {
        int bits = 0;
        for (int r = 0; r < world.roads; r++) {
            if (canWalk(r)) bits |= 1 << r;
        }
        return bits;
    }

    private int givingHosts() {
        int bits = 0;
        for (int h = 0; h < world.hosts; h++) {
            if (world.isGiven(h, son.place, son.things)) bits |= 1 << h;
        }
        return bits;
    }

    // ---- ways

    public int soonest(int t, int i) {
        if (!isThing(t) || !isWithin(i, -1, LAST_STEP_ASKED)) return BAD;
        ways.findWay(t);
        return i == -1 ? ways.wayHours : ways.stepOfWay(i);
    }

    public int latest(int t, int n) {
        if (!isThing(t) || !isWithin(n, 0, MOST_WAY_HOURS)) return BAD;
        return ways.mostWaiting(t, n);
    }

    public int without(int t, int what) {
        if (!isThing(t) || !isWithin(what, 0, 1)) return BAD;
        ways.findWay(t);
        return what == 0 ? ways.neededRoads() : ways.neededHosts();
    }

    public int robbed(int t, int from) {
        if (!isThing(t) || !world.hasPlace(from)) return BAD;
        ways.findWay(t);
        return ways.placeOfRobbery(from);
    }

    // ---- clocks

    public int sure(int p, int hour) {
        if (!world.hasPlace(p) || !isWithin(hour, 0, DAY - 1)) return BAD;
        return world.openAround(p, hour) == world.hoursAround() ? 1 : 0;
    }

    public int odds(int p, int hour, int what) {
        if (!world.hasPlace(p) || !isWithin(hour, 0, DAY - 1) || !isWithin(what, 0, 1)) return BAD;
        int upper = world.openAround(p, hour);
        int lower = world.hoursAround();
        int divisor = greatestDivisor(upper, lower);
        if (divisor == 0) return 0;
        return (what == 0 ? upper : lower) / divisor;
    }

    private static int greatestDivisor(int upper, int lower) {
        for (int d = lower; d > 1; d--) {
            if (upper % d == 0 && lower % d == 0) return d;
        }
        return 1;
    }

    // ---- cups

    public int swaps(int a, int b) {
        if (!isSeat(a) || !isSeat(b) || a == b) return BAD;
        return cups.addSwap(a, b) ? cups.swapped : FULL;
    }

    public int tastes(int seat, int cup) {
        if (!isSeat(seat) || !isSeat(cup)) return BAD;
        return cups.addTaste(seat, cup) ? cups.tasted : FULL;
    }

    public int clears() {
        int both = cups.swapped + cups.tasted;
        cups.forgetAll();
        return both;
    }

    public int lie(int n, int what) {
        if (!isWithin(n, LEAST_CUPS, MOST_CUPS) || !isWithin(what, BEST_TASTE, n - 1)) return BAD;
        cups.gatherRows(n);
        if (what == HOW_MANY) return cups.rowCount;
        return what == BEST_TASTE ? cups.bestTaste(n) : cups.surelyOn(what);
    }

    // ---- kinds, images

    public int mark(int kind, int h) {
        if (!world.hasHost(h)) return NO;
        switch (kind) {
            case 0: return markOfHost(h);
            case 1: return markOfLending(h);
            case 2: return markOfOffended(h);
            case 3: return markOfTwice(h);
            case 4: return markOfFalse(h);
            case 5: return markOfDwarf(h);
            default: return NO;
        }
    }

    private int markOfHost(int h) {
        traced += 1;
        return world.hostGives(h);
    }

    private int markOfLending(int h) {
        traced += 10;
        return markOfHost(h) + world.hostPlace(h);
    }

    private int markOfOffended(int h) {
        traced += 100;
        return markOfHost(h) - world.hostAsks(h);
    }

    private int markOfTwice(int h) {
        traced += 1000;
        return markOfLending(h) * 2;
    }

    private int markOfFalse(int h) {
        traced += 10000;
        return markOfOffended(h) + Integer.bitCount(son.things);
    }

    private int markOfDwarf(int h) {
        traced += 100000;
        return markOfHost(h) + son.hour % DAY;
    }

    public int keep(int image) {
        if (!isWithin(image, 0, 1)) return BAD;
        Son kept = imageOf(image);
        kept.becomeLike(son);
        kept.isKept = true;
        return son.hour;
    }

    public int back(int image) {
        if (!isWithin(image, 0, 1)) return BAD;
        Son kept = imageOf(image);
        if (!kept.isKept) return STATE;
        son.becomeLike(kept);
        return son.hour;
    }

    private Son imageOf(int image) {
        return image == 0 ? firstImage : secondImage;
    }

    public int count(int what) {
        switch (what) {
            case 0: return world.places;
            case 1: return world.roads;
            case 2: return world.hosts;
            case 3: return world.off;
            case 4: return cups.swapped;
            case 5: return cups.tasted;
            case 6: return son.known;
            case 7: return bytes;
            default: return BAD;
        }
    }

    public long trace() {
        return traced;
    }

    private static boolean isWithin(int number, int least, int most) {
        return number >= least && number <= most;
    }

    private static boolean isThing(int t) {
        return t >= 0 && t < THINGS;
    }

    private static boolean isSeat(int seat) {
        return isWithin(seat, 0, MOST_CUPS - 1);
    }

    private static boolean hasThing(int things, int t) {
        return t == NOTHING || isThing(t) && (things >> t & 1) == 1;
    }

    /** What the tale tells; what is asked of a place, road or host that is not there has a mild answer. */
    private static final class World {
        int places;
        int roads;
        int hosts;
        int off;
        private final int[] lions = new int[MOST_PLACES];
        private final int[] gateFrom = new int[MOST_PLACES];
        private final int[] gateHours = new int[MOST_PLACES];
        private final int[] starts = new int[MOST_ROADS];
        private final int[] ends = new int[MOST_ROADS];
        private final int[] lengths = new int[MOST_ROADS];
        private final int[] homes = new int[MOST_HOSTS];
        private final int[] gifts = new int[MOST_HOSTS];
        private final int[] wishes = new int[MOST_HOSTS];

        void forgetAll() {
            places = 0;
            roads = 0;
            hosts = 0;
            off = 0;
        }

        void becomeLike(World other) {
            places = other.places;
            roads = other.roads;
            hosts = other.hosts;
            off = other.off;
            System.arraycopy(other.lions, 0, lions, 0, MOST_PLACES);
            System.arraycopy(other.gateFrom, 0, gateFrom, 0, MOST_PLACES);
            System.arraycopy(other.gateHours, 0, gateHours, 0, MOST_PLACES);
            System.arraycopy(other.starts, 0, starts, 0, MOST_ROADS);
            System.arraycopy(other.ends, 0, ends, 0, MOST_ROADS);
            System.arraycopy(other.lengths, 0, lengths, 0, MOST_ROADS);
            System.arraycopy(other.homes, 0, homes, 0, MOST_HOSTS);
            System.arraycopy(other.gifts, 0, gifts, 0, MOST_HOSTS);
            System.arraycopy(other.wishes, 0, wishes, 0, MOST_HOSTS);
        }

        boolean addPlace() {
            if (!isWithin(places, 0, MOST_PLACES - 1)) return false;
            lions[places] = NOTHING;
            gateFrom[places] = NONE;
            gateHours[places] = DAY;
            places++;
            return true;
        }

        boolean addRoad(int start, int end, int hours) {
            if (!isWithin(roads, 0, MOST_ROADS - 1)) return false;
            starts[roads] = start;
            ends[roads] = end;
            lengths[roads] = hours;
            roads++;
            return true;
        }

        boolean addHost(int p, int gives, int asks) {
            if (!isWithin(hosts, 0, MOST_HOSTS - 1)) return false;
            homes[hosts] = p;
            gifts[hosts] = gives;
            wishes[hosts] = asks;
            hosts++;
            return true;
        }

        boolean addLion(int p, int takes) {
            if (!hasPlace(p)) return false;
            lions[p] = takes;
            return true;
        }

        boolean addGate(int p, int from, int hours) {
            if (!hasPlace(p)) return false;
            gateFrom[p] = from;
            gateHours[p] = hours;
            return true;
        }

        boolean hasPlace(int p) {
            return p >= 0 && p < places && p < MOST_PLACES;
        }

        boolean hasRoad(int r) {
            return r >= 0 && r < roads && r < MOST_ROADS;
        }

        boolean hasHost(int h) {
            return h >= 0 && h < hosts && h < MOST_HOSTS;
        }

        int lionAt(int p) {
            return hasPlace(p) ? lions[p] : NOTHING;
        }

        int gateFromAt(int p) {
            return hasPlace(p) ? gateFrom[p] : NONE;
        }

        int gateHoursAt(int p) {
            return hasPlace(p) ? gateHours[p] : DAY;
        }

        int roadStart(int r) {
            return hasRoad(r) ? starts[r] : NONE;
        }

        int roadEnd(int r) {
            return hasRoad(r) ? ends[r] : NONE;
        }

        int roadHours(int r) {
            return hasRoad(r) ? lengths[r] : 0;
        }

        int hostPlace(int h) {
            return hasHost(h) ? homes[h] : NONE;
        }

        int hostGives(int h) {
            return hasHost(h) ? gifts[h] : 0;
        }

        int hostAsks(int h) {
            return hasHost(h) ? wishes[h] : NOTHING;
        }

        /** The other place of a road; NONE, if the road is not at this one. */
        int farEnd(int r, int p) {
            if (!hasRoad(r)) return NONE;
            if (starts[r] == p) return ends[r];
            return ends[r] == p ? starts[r] : NONE;
        }

        boolean isOpen(int p, int hour) {
            if (!hasPlace(p) || gateFrom[p] == NONE) return true;
            return Math.floorMod(hour - gateFrom[p], DAY) < gateHours[p];
        }

        boolean letsIn(int p, int hour, int things) {
            return isOpen(p, hour) && hasThing(things, lionAt(p));
        }

        /** What is left of the things of one whom the lion let in. */
        int thingsInside(int p, int things) {
            int taken = lionAt(p);
            return isThing(taken) ? things & ~(1 << taken) : things;
        }

        boolean isGiven(int h, int p, int things) {
            return hasHost(h) && homes[h] == p
                && hasThing(things, wishes[h]) && !hasThing(things, gifts[h]);
        }

        int hoursAround() {
            return 2 * off + 1;
        }

        int openAround(int p, int hour) {
            int open = 0;
            for (int d = -off; d <= off; d++) {
                if (isOpen(p, hour + d)) open++;
            }
            return open;
        }
    }

    /** Reads the text, token by token, into a world. */
    private static final class Reader {
        private static final int END = 0, LETTER = 1, NUMBER = 2, STOP = 3, WRONG = 4;
        private static final int BLANK = 32;

        private final int[] text;
        private final World world;
        private int length;
        private int next;
        private int start;
        private int kind;
        private int value;
        private boolean isOffTold;

        Reader(int[] text, World world) {
            this.text = text;
            this.world = world;
        }

        /** How many items there are, or FAULT_BASE less the fault. */
        int readTale(int bytes) {
            world.forgetAll();
            length = Math.min(bytes, text.length);
            next = 0;
            isOffTold = false;
            for (int items = 0; items <= MOST_BYTES; items++) {
                readToken();
                if (kind == END) return items;
                if (!readsItem() || !readsStop()) return FAULT_BASE - start;
            }
            return FAULT_BASE - length;
        }

        private boolean readsItem() {
            if (kind != LETTER) return false;
            switch (value) {
                case 'p': return world.addPlace();
                case 'r': return readsRoad();
                case 'h': return readsHost();
                case 'l': return readsLion();
                case 'g': return readsGate();
                case 'o': return readsOff();
                default: return false;
            }
        }

        private boolean readsRoad() {
            if (world.roads >= MOST_ROADS || !readsPlace()) return false;
            int a = value;
            if (!readsPlace() || value == a) return false;
            int b = value;
            return readsNumber(1, MOST_ROAD_HOURS) && world.addRoad(a, b, value);
        }

        private boolean readsHost() {
            if (world.hosts >= MOST_HOSTS || !readsPlace()) return false;
            int p = value;
            if (!readsNumber(0, THINGS - 1)) return false;
            int gives = value;
            if (!readsNumber(0, NOTHING)) return false;
            return (isThing(value) || value == NOTHING) && world.addHost(p, gives, value);
        }

        private boolean readsLion() {
            if (!readsPlace() || value == HOME || world.lionAt(value) != NOTHING) return false;
            int p = value;
            return readsNumber(0, THINGS - 1) && world.addLion(p, value);
        }

        private boolean readsGate() {
            if (!readsPlace() || value == HOME || world.gateFromAt(value) != NONE) return false;
            int p = value;
            if (!readsNumber(0, DAY - 1)) return false;
            int from = value;
            return readsNumber(1, DAY) && world.addGate(p, from, value);
        }

        private boolean readsOff() {
            if (isOffTold || !readsNumber(0, MOST_OFF)) return false;
            world.off = value;
            isOffTold = true;
            return true;
        }

        private boolean readsPlace() {
            readToken();
            return kind == NUMBER && world.hasPlace(value);
        }

        private boolean readsNumber(int least, int most) {
            readToken();
            return kind == NUMBER && isWithin(value, least, most);
        }

        private boolean readsStop() {
            readToken();
            return kind == STOP;
        }

        private void readToken() {
            while (next < length && text[next] == BLANK) next++;
            start = next;
            kind = END;
            if (start >= length) return;
            int first = text[start];
            next++;
            if (isLetter(first)) {
                while (next < length && isLetter(text[next])) next++;
                // every item begins with one letter alone: several side by side can stand nowhere
                kind = next - start == 1 ? LETTER : WRONG;
                value = first;
            } else if (isDigit(first)) {
                value = first - '0';
                while (next < length && isDigit(text[next])) {
                    value = value * 10 + text[next] - '0';
                    next++;
                }
                // a third digit, or a second one behind a 0, makes it wrong, however it wraps round
                int digits = next - start;
                kind = digits == 1 || digits == 2 && first != '0' ? NUMBER : WRONG;
            } else {
                kind = first == ';' ? STOP : WRONG;
            }
        }

        private static boolean isLetter(int c) {
            return c >= 'a' && c <= 'z';
        }

        private static boolean isDigit(int c) {
            return c >= '0' && c <= '9';
        }
    }

    /** Where the son is, the hour, his things, and what of it may be undone. */
    private static final class Son {
        int place;
        int hour;
        int things;
        int known;
        boolean isKept;
        private final int[] pastPlaces = new int[MOST_UNDONE];
        private final int[] pastHours = new int[MOST_UNDONE];
        private final int[] pastThings = new int[MOST_UNDONE];

        void startAnew() {
            place = HOME;
            hour = 0;
            things = 0;
            known = 0;
        }

        void becomeLike(Son other) {
            place = other.place;
            hour = other.hour;
            things = other.things;
            known = other.known;
            System.arraycopy(other.pastPlaces, 0, pastPlaces, 0, MOST_UNDONE);
            System.arraycopy(other.pastHours, 0, pastHours, 0, MOST_UNDONE);
            System.arraycopy(other.pastThings, 0, pastThings, 0, MOST_UNDONE);
        }

        void remember() {
            if (known >= MOST_UNDONE) loseOldest();
            if (!isWithin(known, 0, MOST_UNDONE - 1)) return;
            pastPlaces[known] = place;
            pastHours[known] = hour;
            pastThings[known] = things;
            known++;
        }

        private void loseOldest() {
            System.arraycopy(pastPlaces, 1, pastPlaces, 0, MOST_UNDONE - 1);
            System.arraycopy(pastHours, 1, pastHours, 0, MOST_UNDONE - 1);
            System.arraycopy(pastThings, 1, pastThings, 0, MOST_UNDONE - 1);
            known = MOST_UNDONE - 1;
        }

        void recall() {
            if (!isWithin(known, 1, MOST_UNDONE)) return;
            known--;
            place = pastPlaces[known];
            hour = pastHours[known];
            things = pastThings[known];
        }
    }

    /**
     * The ways home. What one may have is one of 32 sets of things, so an int's bits say which
     * of these sets there can be at a place, some hours from now: the table has such an int for
     * each hour and place. It is filled onward from now, to find the fewest hours, or backward
     * from being home, to find from where that can yet be.
     */
    private static final class Ways {
        /** For each thing: the sets that have it. */
        private static final int[] HAVING = {0xAAAAAAAA, 0xCCCCCCCC, 0xF0F0F0F0, 0xFF00FF00, 0xFFFF0000};
        /** More hours than any way takes. */
        private static final int NEVER = 1000;

        private final World world;
        private final Son son;
        private final int[] table = new int[(MOST_WAY_HOURS + 1) * MOST_PLACES];
        private final int[] brotherHours = new int[MOST_PLACES];
        /** The soonest way that was found last, and from where: it is often asked for step by step. */
        private final int[] steps = new int[MOST_STEPS];
        private int stepCount;
        int wayHours;
        private int wayThing;
        private int fromPlace;
        private int fromHour;
        private int fromThings;
        /** Where he is on that way, the hours gone, what he has there. */
        private int place;
        private int gone;
        private int things;

        Ways(World world, Son son) {
            this.world = world;
            this.son = son;
            wayThing = NONE;
        }

        void forgetWay() {
            wayThing = NONE;
        }

        /** Finds the soonest way of a thing: its hours, or NONE, and its steps. */
        void findWay(int thing) {
            if (isWayKnown(thing)) return;
            wayThing = thing;
            fromPlace = son.place;
            fromHour = son.hour;
            fromThings = son.things;
            stepCount = 0;
            wayHours = fewestHours(thing, NOBODY, NOBODY);
            if (wayHours == NONE) return;
            fillBackward(thing, wayHours);
            standAtStart();
            for (int k = 0; k < MOST_STEPS; k++) {
                int step = nextStep();
                if (step == NONE) return;
                steps[k] = step;
                stepCount = k + 1;
                takeStep(step);
            }
        }

        private boolean isWayKnown(int thing) {
            return thing == wayThing && fromPlace == son.place && fromHour == son.hour && fromThings == son.things;
        }

        int stepOfWay(int i) {
            return i >= 0 && i < stepCount && i < MOST_STEPS ? steps[i] : NONE;
        }

        /** Where on the way that was found the brother is no later than he who has the thing. */
        int placeOfRobbery(int from) {
            measureBrother(from);
            standAtStart();
            for (int k = 0; k < stepCount && k < MOST_STEPS; k++) {
                boolean hasIt = hasThing(things, wayThing);
                takeStep(steps[k]);
                if (isWalk(steps[k]) && hasIt && brotherHoursTo(place) <= gone) return place;
            }
            return NONE;
        }

        int neededRoads() {
            int used = usedSteps();
            int bits = 0;
            for (int r = 0; r < world.roads; r++) {
                boolean isUsed = (used >> WALK_STEP + r & 1) == 1;
                if (isUsed && fewestHours(wayThing, r, NOBODY) == NONE) bits |= 1 << r;
            }
            return bits;
        }

        int neededHosts() {
            int used = usedSteps();
            int bits = 0;
            for (int h = 0; h < world.hosts; h++) {
                boolean isUsed = (used >> ASK_STEP + h & 1) == 1;
                if (isUsed && fewestHours(wayThing, NOBODY, h) == NONE) bits |= 1 << h;
            }
            return bits;
        }

        /** The steps of the way as bits: what it does without can't be needed. */
        private int usedSteps() {
            int bits = 0;
            for (int k = 0; k < stepCount && k < MOST_STEPS; k++) bits |= 1 << steps[k];
            return bits;
        }

        private int fewestHours(int thing, int noRoad, int noHost) {
            Arrays.fill(table, 0);
            addSets(0, son.place, 1 << son.things);
            for (int e = 0; e <= MOST_WAY_HOURS; e++) {
                spreadAsks(e, true, noHost);
                if ((setsAt(e, HOME) & setsHaving(thing)) != 0) return e;
                for (int p = 0; p < world.places; p++) addSets(e + 1, p, setsAt(e, p));
                spreadWalks(e, true, noRoad);
            }
            return NONE;
        }

        int mostWaiting(int thing, int hours) {
            fillBackward(thing, hours);
            for (int e = hours; e >= 0; e--) {
                if (canBeHome(e, son.place, son.things)) return e;
            }
            return NONE;
        }

        private void standAtStart() {
            place = fromPlace;
            gone = 0;
            things = fromThings;
        }

        /** The least step from behind which he can yet be home in time; NONE at the way's end. */
        private int nextStep() {
            if (place == HOME && hasThing(things, wayThing)) return NONE;
            if (canBeHome(gone + 1, place, things)) return WAIT_STEP;
            for (int r = 0; r < world.roads; r++) {
                if (isWalkHomeward(r)) return WALK_STEP + r;
            }
            for (int h = 0; h < world.hosts; h++) {
                if (isAskHomeward(h)) return ASK_STEP + h;
            }
            return NONE;
        }

        private boolean isWalkHomeward(int r) {
            int to = world.farEnd(r, place);
            int then = gone + world.roadHours(r);
            return to != NONE && world.letsIn(to, son.hour + then, things)
                && canBeHome(then, to, world.thingsInside(to, things));
        }

        private boolean isAskHomeward(int h) {
            return world.isGiven(h, place, things)
                && canBeHome(gone, place, things | 1 << world.hostGives(h));
        }

        private void takeStep(int step) {
            if (step == WAIT_STEP) {
                gone++;
            } else if (isWalk(step)) {
                int r = step - WALK_STEP;
                place = world.farEnd(r, place);
                gone += world.roadHours(r);
                things = world.thingsInside(place, things);
            } else {
                things |= 1 << world.hostGives(step - ASK_STEP);
            }
        }

        private static boolean isWalk(int step) {
            return step >= WALK_STEP && step < ASK_STEP;
        }

        private void measureBrother(int from) {
            for (int p = 0; p < MOST_PLACES; p++) brotherHours[p] = p == from ? 0 : NEVER;
            for (int round = 1; round < MOST_PLACES; round++) {
                for (int r = 0; r < world.roads; r++) {
                    shortenBrother(r, world.roadStart(r), world.roadEnd(r));
                    shortenBrother(r, world.roadEnd(r), world.roadStart(r));
                }
            }
        }

        private void shortenBrother(int r, int from, int to) {
            int hours = brotherHoursTo(from) + world.roadHours(r);
            if (world.hasPlace(to) && hours < brotherHours[to]) brotherHours[to] = hours;
        }

        private int brotherHoursTo(int p) {
            return world.hasPlace(p) ? brotherHours[p] : NEVER;
        }

        /** All from where one can be home with the thing in so many hours (who is early waits there). */
        private void fillBackward(int thing, int hours) {
            Arrays.fill(table, 0);
            addSets(hours, HOME, setsHaving(thing));
            for (int e = hours; e >= 0; e--) {
                for (int p = 0; p < world.places; p++) addSets(e, p, setsAt(e + 1, p));
                spreadWalks(e, false, NOBODY);
                spreadAsks(e, false, NOBODY);
            }
        }

        private void spreadWalks(int e, boolean isOnward, int noRoad) {
            for (int r = 0; r < world.roads; r++) {
                if (r == noRoad) continue;
                int a = world.roadStart(r);
                int b = world.roadEnd(r);
                int then = e + world.roadHours(r);
                if (then > MOST_WAY_HOURS) continue;
                spreadWalk(e, then, a, b, isOnward);
                spreadWalk(e, then, b, a, isOnward);
            }
        }

        private void spreadWalk(int e, int then, int from, int to, boolean isOnward) {
            if (!world.isOpen(to, son.hour + then)) return;
            int taken = world.lionAt(to);
            if (isOnward) {
                addSets(then, to, setsLess(setsAt(e, from), taken));
            } else {
                addSets(e, from, setsWith(setsAt(then, to), taken));
            }
        }

        /** As often as there are things, since each ask of a row of asks brings another one. */
        private void spreadAsks(int e, boolean isOnward, int noHost) {
            for (int round = 0; round < THINGS; round++) {
                boolean isMore = false;
                for (int h = 0; h < world.hosts; h++) {
                    if (h != noHost && isAskMore(e, h, isOnward)) isMore = true;
                }
                if (!isMore) return;
            }
        }

        private boolean isAskMore(int e, int h, boolean isOnward) {
            int p = world.hostPlace(h);
            int gives = world.hostGives(h);
            int old = setsAt(e, p);
            int served = setsHaving(world.hostAsks(h)) & ~setsHaving(gives);
            addSets(e, p, isOnward ? (old & served) << (1 << gives) : old >>> (1 << gives) & served);
            return setsAt(e, p) != old;
        }

        private boolean canBeHome(int e, int p, int had) {
            return isCell(e, p) && (table[e * MOST_PLACES + p] >>> had & 1) == 1;
        }

        private int setsAt(int e, int p) {
            return isCell(e, p) ? table[e * MOST_PLACES + p] : 0;
        }

        private void addSets(int e, int p, int sets) {
            if (isCell(e, p)) table[e * MOST_PLACES + p] |= sets;
        }

        private static boolean isCell(int e, int p) {
            return e >= 0 && e <= MOST_WAY_HOURS && p >= 0 && p < MOST_PLACES;
        }

        private static int setsHaving(int thing) {
            return isThing(thing) ? HAVING[thing] : -1;
        }

        /** Of the sets those that had the thing, less it. */
        private static int setsLess(int sets, int thing) {
            return isThing(thing) ? (sets & HAVING[thing]) >>> (1 << thing) : sets;
        }

        /** The sets that less the thing are among these. */
        private static int setsWith(int sets, int thing) {
            return isThing(thing) ? sets << (1 << thing) & HAVING[thing] : sets;
        }
    }

    /** The cups on the table. A row of them is an int: three bits for the cup on each seat. */
    private static final class Cups {
        private static final int CUP_BITS = 3;
        private static final int CUP_MASK = 7;

        int swapped;
        int tasted;
        int rowCount;
        private final int[] firstSeats = new int[MOST_SWAPS];
        private final int[] secondSeats = new int[MOST_SWAPS];
        private final int[] tastedSeats = new int[MOST_TASTED];
        private final int[] tastedCups = new int[MOST_TASTED];
        private final int[] rows = new int[MOST_ROWS];

        void forgetAll() {
            swapped = 0;
            tasted = 0;
        }

        boolean addSwap(int a, int b) {
            if (!isWithin(swapped, 0, MOST_SWAPS - 1)) return false;
            firstSeats[swapped] = a;
            secondSeats[swapped] = b;
            swapped++;
            return true;
        }

        boolean addTaste(int seat, int cup) {
            if (!isWithin(tasted, 0, MOST_TASTED - 1)) return false;
            tastedSeats[tasted] = seat;
            tastedCups[tasted] = cup;
            tasted++;
            return true;
        }

        /** All unlike rows of n cups that can lie by the swaps and agree with what is tasted. */
        void gatherRows(int n) {
            rowCount = 0;
            addRow(rowAtFirst(n));
            for (int k = 0; k < swapped && k < MOST_SWAPS; k++) {
                if (firstSeats[k] < n && secondSeats[k] < n) addSwappedRows(firstSeats[k], secondSeats[k]);
            }
            dropUntasted(n);
        }

        private static int rowAtFirst(int n) {
            int row = 0;
            for (int k = 0; k < n; k++) row |= k << CUP_BITS * k;
            return row;
        }

        private void addSwappedRows(int a, int b) {
            int before = Math.min(rowCount, MOST_ROWS);
            for (int i = 0; i < before; i++) {
                int other = cupOn(rows[i], a) ^ cupOn(rows[i], b);
                addRow(rows[i] ^ other << CUP_BITS * a ^ other << CUP_BITS * b);
            }
        }

        private void addRow(int row) {
            for (int i = 0; i < rowCount && i < MOST_ROWS; i++) {
                if (rows[i] == row) return;
            }
            if (!isWithin(rowCount, 0, MOST_ROWS - 1)) return;
            rows[rowCount] = row;
            rowCount++;
        }

        private void dropUntasted(int n) {
            int left = 0;
            for (int i = 0; i < rowCount && i < MOST_ROWS; i++) {
                if (!isAsTasted(rows[i], n)) continue;
                rows[left] = rows[i];
                left++;
            }
            rowCount = left;
        }

        /** Nothing lies on a seat that there is not: its bits would look like cup 0. */
        private boolean isAsTasted(int row, int n) {
            for (int k = 0; k < tasted && k < MOST_TASTED; k++) {
                if (tastedSeats[k] >= n || cupOn(row, tastedSeats[k]) != tastedCups[k]) return false;
            }
            return true;
        }

        int surelyOn(int seat) {
            if (rowCount == 0) return NONE;
            return Integer.bitCount(cupsOn(seat)) == 1 ? cupOn(rows[0], seat) : NOT_ONE_ALONE;
        }

        int bestTaste(int n) {
            int best = NONE;
            int most = 1;
            for (int seat = 0; seat < n; seat++) {
                int unlike = Integer.bitCount(cupsOn(seat));
                if (unlike > most) {
                    most = unlike;
                    best = seat;
                }
            }
            return best;
        }

        /** The cups that can lie on a seat, as bits. */
        private int cupsOn(int seat) {
            int bits = 0;
            for (int i = 0; i < rowCount && i < MOST_ROWS; i++) bits |= 1 << cupOn(rows[i], seat);
            return bits;
        }

        private static int cupOn(int row, int seat) {
            return row >> CUP_BITS * seat & CUP_MASK;
        }
    }
}

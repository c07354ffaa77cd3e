import java.util.Random;

/** Runs of calls drawn from a fixed seed, each answer held against NaiveWell's. */
public final class NaiveRunsTest {
    private static final Check CHECK = new Check("NaiveRunsTest");
    private static final int[] WILD = {Integer.MIN_VALUE, Integer.MAX_VALUE, -1, -2, -3, 5, 6, 7, 9, 24, 60, 61, 99, 100, 200, 256};

    private final Random random;
    private final HourWell well = new HourWell();
    private final NaiveWell naive = new NaiveWell();
    private final StringBuilder calls = new StringBuilder();

    private NaiveRunsTest(long seed) {
        random = new Random(seed);
        calls.append("seed ").append(seed).append(':');
    }

    public static void main(String[] args) {
        int runs = args.length > 0 ? Integer.parseInt(args[0]) : 600;
        long seed = args.length > 1 ? Long.parseLong(args[1]) : 1;
        for (int k = 0; k < runs; k++) new NaiveRunsTest(seed + k).run();
        CHECK.end();
    }

    private void run() {
        int left = 512;
        while (left > 0) {
            String text = random.nextInt(3) == 0 ? spoiled(tale()) : tale();
            for (int i = 0; i < text.length() && left > 0; i++, left--) type(text.charAt(i));
            if (left-- > 0) due("tale()", well.tale(), naive.tale());
            if (well.count(7) > 0) due("clear()", well.clear(), naive.clear());
            for (int k = random.nextInt(120); k > 0 && left > 0; k--, left--) call();
        }
    }

    private void due(String call, long got, long want) {
        calls.append(' ').append(call);
        CHECK.due(got == want ? call : calls.toString(), got, want);
    }

    private int below(int bound) {
        return random.nextInt(bound);
    }

    /** A number from 0 on below a bound, now and then one that is not as told. */
    private int number(int bound) {
        return below(12) == 0 ? WILD[below(WILD.length)] : below(Math.max(bound, 1));
    }

    private String tale() {
        StringBuilder text = new StringBuilder();
        int places = below(8) == 0 ? 7 : 1 + below(5);
        for (int k = 0; k < places; k++) text.append("p;");
        if (places > 1) {
            for (int k = 1; k < places && below(8) != 0; k++) road(text, k, below(k));
            for (int k = below(4); k > 0; k--) {
                int a = below(places);
                road(text, a, (a + 1 + below(places - 1)) % places);
            }
            for (int p = 1; p < places; p++) {
                if (below(4) == 0) item(text, 'l', p, thing());
                if (below(3) == 0) item(text, 'g', p, below(24), 1 + below(below(2) == 0 ? 24 : 6));
            }
        }
        for (int k = below(7); k > 0; k--) item(text, 'h', below(places), thing(), below(2) == 0 ? 9 : thing());
        if (below(2) == 0) item(text, 'o', below(7));
        return text.length() > 200 ? text.substring(0, 200) : text.toString();
    }

    /** Often one of few, so that what is asked for is given somewhere. */
    private int thing() {
        return below(3) == 0 ? below(5) : below(3);
    }

    private void road(StringBuilder text, int a, int b) {
        item(text, 'r', a, b, below(3) == 0 ? 1 + below(9) : 1 + below(3));
    }

    private void item(StringBuilder text, char letter, int... numbers) {
        text.append(letter);
        for (int n : numbers) text.append(below(4) == 0 ? "  " : " ").append(n);
        text.append(below(4) == 0 ? " ;" : ";");
    }

    private String spoiled(String text) {
        StringBuilder s = new StringBuilder(text);
        String signs = "prhlgo;;  0123456789aA-\n";
        for (int k = 1 + below(2); k > 0 && s.length() > 0; k--) {
            int at = below(s.length());
            char sign = signs.charAt(below(signs.length()));
            switch (below(4)) {
                case 0 -> s.deleteCharAt(at);
                case 1 -> s.setCharAt(at, sign);
                case 2 -> s.insert(at, sign);
                default -> s.setLength(at);
            }
        }
        return s.length() > 200 ? s.substring(0, 200) : s.toString();
    }

    private void type(int c) {
        due("type(" + c + ")", well.type(c), naive.type(c));
    }

    private void call() {
        int sort = below(20);
        if (sort < 6) journey();
        else if (sort < 9) ways();
        else if (sort < 12) cups();
        else if (sort < 14) told();
        else if (sort < 16) clocks();
        else kinds();
    }

    private void told() {
        int what = number(3);
        int k = number(8);
        due("place(" + k + ", " + what + ")", well.place(k, what), naive.place(k, what));
        due("road(" + k + ", " + what + ")", well.road(k, what), naive.road(k, what));
        due("host(" + k + ", " + what + ")", well.host(k, what), naive.host(k, what));
    }

    private void journey() {
        int k = number(9);
        switch (below(5)) {
            case 0, 1 -> due("walks(" + k + ")", well.walks(k), naive.walks(k));
            case 2 -> due("waits()", well.waits(), naive.waits());
            case 3 -> due("asks(" + k % 6 + ")", well.asks(k % 6), naive.asks(k % 6));
            default -> {
                if (below(3) == 0) due("undo()", well.undo(), naive.undo());
            }
        }
        int what = number(6);
        due("now(" + what + ")", well.now(what), naive.now(what));
    }

    private void ways() {
        int t = number(5);
        switch (below(12)) {
            case 0, 1, 2 -> {
                for (int i = -1; i < 5; i++) due("soonest(" + t + ", " + i + ")", well.soonest(t, i), naive.soonest(t, i));
                int i = number(100);
                due("soonest(" + t + ", " + i + ")", well.soonest(t, i), naive.soonest(t, i));
            }
            case 3, 4, 5 -> {
                int n = number(61);
                due("latest(" + t + ", " + n + ")", well.latest(t, n), naive.latest(t, n));
            }
            case 6 -> {
                int what = number(2);
                due("without(" + t + ", " + what + ")", well.without(t, what), naive.without(t, what));
            }
            default -> {
                int from = number(well.count(0));
                due("robbed(" + t + ", " + from + ")", well.robbed(t, from), naive.robbed(t, from));
            }
        }
    }

    private void clocks() {
        int p = number(well.count(0));
        int hour = number(24);
        int what = number(2);
        due("sure(" + p + ", " + hour + ")", well.sure(p, hour), naive.sure(p, hour));
        due("odds(" + p + ", " + hour + ", " + what + ")", well.odds(p, hour, what), naive.odds(p, hour, what));
    }

    private void cups() {
        int a = number(5);
        int b = number(5);
        switch (below(8)) {
            case 0, 1, 2 -> due("swaps(" + a + ", " + b + ")", well.swaps(a, b), naive.swaps(a, b));
            case 3 -> due("tastes(" + a + ", " + b + ")", well.tastes(a, b), naive.tastes(a, b));
            case 4 -> {
                if (below(5) == 0) due("clears()", well.clears(), naive.clears());
            }
            default -> {
                int n = below(20) == 0 ? number(8) : 2 + below(4);
                for (int what = -3; what <= n && what < 7; what++) {
                    due("lie(" + n + ", " + what + ")", well.lie(n, what), naive.lie(n, what));
                }
            }
        }
    }

    private void kinds() {
        int k = number(6);
        int image = number(2);
        switch (below(5)) {
            case 0, 1 -> {
                int h = number(well.count(2));
                due("mark(" + k + ", " + h + ")", well.mark(k, h), naive.mark(k, h));
                due("trace()", well.trace(), naive.trace());
            }
            case 2 -> due("keep(" + image + ")", well.keep(image), naive.keep(image));
            case 3 -> due("back(" + image + ")", well.back(image), naive.back(image));
            default -> {
                int what = number(8);
                due("count(" + what + ")", well.count(what), naive.count(what));
            }
        }
    }
}

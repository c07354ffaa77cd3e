import java.util.Arrays;

/** What can be seen of an object with at most four places, roads and hosts, in under 400 calls; they use up what may be undone, and the text. */
final class Sight {
    private final HourWell well;
    private final long[] seen = new long[400];
    private int count = 0;

    private Sight(HourWell well) {
        this.well = well;
    }

    static long[] of(HourWell well) {
        Sight sight = new Sight(well);
        sight.tale();
        sight.ways();
        sight.cups();
        sight.see(well.trace());
        sight.journey();
        for (int image = 0; image < 2; image++) {
            sight.see(well.back(image));
            sight.journey();
        }
        sight.text();
        return Arrays.copyOf(sight.seen, sight.count);
    }

    private void see(long answer) {
        seen[count] = answer;
        count++;
    }

    private void tale() {
        for (int what = 0; what < 8; what++) see(well.count(what));
        for (int what = 0; what < 3; what++) {
            for (int p = 0; p < 4; p++) see(well.place(p, what));
            for (int r = 0; r < 4; r++) see(well.road(r, what));
            for (int h = 0; h < 4; h++) see(well.host(h, what));
        }
        for (int hour = 0; hour < 6; hour++) see(well.odds(1, hour, 0));
    }

    private void ways() {
        for (int t = 0; t < 5; t++) {
            for (int i = -1; i < 3; i++) see(well.soonest(t, i));
            see(well.latest(t, 40));
        }
    }

    private void cups() {
        for (int n = 2; n <= 5; n++) {
            for (int what = -2; what < n; what++) see(well.lie(n, what));
        }
    }

    private void journey() {
        for (int what = 4; what < 6; what++) see(well.now(what));
        for (int k = 0; k < 13; k++) {
            see(well.now(0));
            see(well.now(1));
            see(well.now(3));
            see(well.undo());
        }
    }

    private void text() {
        see(well.tale());
        for (int what = 0; what < 4; what++) see(well.count(what));
        see(well.place(1, 0));
        see(well.clear());
    }
}

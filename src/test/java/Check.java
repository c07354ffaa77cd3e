/** Counts the answers that are not as due and prints each of them. */
final class Check {
    private final String name;
    private int asked = 0;
    private int wrong = 0;

    Check(String name) {
        this.name = name;
    }

    void due(String call, long got, long want) {
        asked++;
        if (got == want) return;
        wrong++;
        System.out.println(name + ": " + call + " answered " + got + ", due is " + want);
    }

    void end() {
        System.out.println(name + ": " + (asked - wrong) + " of " + asked + " answers are as due");
        if (wrong != 0) System.exit(1);
    }

    /** Types a text and lets it tell: what tale() answered. */
    static int tell(HourWell well, String text) {
        for (int i = 0; i < text.length(); i++) well.type(text.charAt(i));
        return well.tale();
    }

    static HourWell told(String text) {
        HourWell well = new HourWell();
        int items = tell(well, text);
        if (items < 0) throw new IllegalStateException("the test's own tale has a fault: " + text + " " + items);
        return well;
    }

    static void waits(HourWell well, int times) {
        for (int i = 0; i < times; i++) well.waits();
    }
}

/** Promises 19 to 22: swaps, tastes, clears, lie. */
public final class CupsTest {
    private static final Check CHECK = new Check("CupsTest");

    public static void main(String[] args) {
        swapping();
        tasting();
        clearing();
        wrongNumbers();
        unswapped();
        lying();
        cupsThatAreNotThere();
        best();
        CHECK.end();
    }

    private static void swapping() {
        HourWell x = new HourWell();
        int[][] wrong = {{-1, 0}, {0, -1}, {5, 0}, {0, 5}, {0, 0}, {4, 4}};
        for (int[] row : wrong) CHECK.due("swaps(" + row[0] + ", " + row[1] + ")", x.swaps(row[0], row[1]), -1);
        for (int i = 1; i <= 6; i++) CHECK.due("swaps() " + i, x.swaps(0, 4), i);
        CHECK.due("swaps() 7", x.swaps(0, 4), -3);
        CHECK.due("swaps() 7, bad", x.swaps(0, 0), -1);
        CHECK.due("count(4)", x.count(4), 6);
        CHECK.due("tastes() yet", x.tastes(0, 0), 1);
    }

    private static void tasting() {
        HourWell x = new HourWell();
        int[][] wrong = {{-1, 0}, {0, -1}, {5, 0}, {0, 5}};
        for (int[] row : wrong) CHECK.due("tastes(" + row[0] + ", " + row[1] + ")", x.tastes(row[0], row[1]), -1);
        for (int i = 1; i <= 6; i++) CHECK.due("tastes() " + i, x.tastes(4, 4), i);
        CHECK.due("tastes() 7", x.tastes(0, 0), -3);
        CHECK.due("tastes() 7, bad", x.tastes(0, 9), -1);
        CHECK.due("count(5)", x.count(5), 6);
        CHECK.due("swaps() yet", x.swaps(0, 1), 1);
    }

    private static void clearing() {
        HourWell x = new HourWell();
        CHECK.due("clears() of none", x.clears(), 0);
        x.swaps(0, 1);
        x.swaps(0, 2);
        x.tastes(0, 1);
        CHECK.due("clears()", x.clears(), 3);
        CHECK.due("count(4)", x.count(4), 0);
        CHECK.due("count(5)", x.count(5), 0);
        CHECK.due("lie(3, -1)", x.lie(3, -1), 1);
        CHECK.due("swaps() anew", x.swaps(0, 1), 1);
    }

    private static void wrongNumbers() {
        HourWell x = new HourWell();
        int[][] wrong = {{1, -1}, {6, -1}, {-1, -1}, {2, 2}, {5, 5}, {3, -3}, {Integer.MAX_VALUE, 0}, {3, Integer.MIN_VALUE}};
        for (int[] row : wrong) CHECK.due("lie(" + row[0] + ", " + row[1] + ")", x.lie(row[0], row[1]), -1);
        CHECK.due("lie(2, 1)", x.lie(2, 1), 1);
        CHECK.due("lie(5, 4)", x.lie(5, 4), 4);
    }

    private static void unswapped() {
        HourWell x = new HourWell();
        for (int n = 2; n <= 5; n++) {
            CHECK.due("lie(" + n + ", -1)", x.lie(n, -1), 1);
            CHECK.due("lie(" + n + ", -2)", x.lie(n, -2), -9);
            for (int seat = 0; seat < n; seat++) CHECK.due("lie(" + n + ", " + seat + ")", x.lie(n, seat), seat);
        }
        x.tastes(0, 1);
        CHECK.due("tasted what can't be: how many", x.lie(3, -1), 0);
        CHECK.due("tasted what can't be: surely", x.lie(3, 2), -9);
        CHECK.due("tasted what can't be: taste", x.lie(3, -2), -9);
    }

    private static void lying() {
        HourWell x = new HourWell();
        x.swaps(0, 1);
        CHECK.due("one swap", x.lie(3, -1), 2);
        CHECK.due("one swap: seat 0", x.lie(3, 0), -5);
        CHECK.due("one swap: seat 2", x.lie(3, 2), 2);
        x.swaps(1, 2);
        CHECK.due("two swaps", x.lie(3, -1), 4);
        x.tastes(2, 0);
        CHECK.due("cup 0 came to seat 2: both were done", x.lie(3, -1), 1);
        CHECK.due("seat 0", x.lie(3, 0), 1);
        CHECK.due("seat 1", x.lie(3, 1), 2);
        CHECK.due("seat 2", x.lie(3, 2), 0);
        x.clears();
        x.swaps(1, 2);
        x.swaps(0, 1);
        x.tastes(2, 0);
        CHECK.due("in the other order it can't be", x.lie(3, -1), 0);
        x.clears();
        x.swaps(0, 1);
        x.swaps(1, 0);
        CHECK.due("unlike rows alone", x.lie(2, -1), 2);
        x.clears();
        int[][] six = {{0, 1}, {1, 2}, {2, 3}, {3, 4}, {0, 2}, {1, 3}};
        for (int[] row : six) x.swaps(row[0], row[1]);
        CHECK.due("six swaps of five cups", x.lie(5, -1), 48);
        x.tastes(0, 4);
        CHECK.due("cup 4 is never on seat 0", x.lie(5, -1), 0);
        x.clears();
        int[][] most = {{0, 1}, {0, 2}, {0, 3}, {1, 4}, {0, 1}, {3, 4}};
        for (int[] row : most) x.swaps(row[0], row[1]);
        CHECK.due("the most rows there can be", x.lie(5, -1), 56);
        x.clears();
        x.swaps(0, 1);
        x.tastes(0, 1);
        x.tastes(0, 0);
        CHECK.due("two tastes that are at odds", x.lie(2, -1), 0);
    }

    private static void cupsThatAreNotThere() {
        HourWell x = new HourWell();
        x.swaps(0, 3);
        x.swaps(3, 1);
        CHECK.due("swaps with a seat that there is not", x.lie(3, -1), 1);
        CHECK.due("swaps with a seat that there is", x.lie(4, -1), 4);
        x.clears();
        x.swaps(1, 3);
        CHECK.due("a swap with the seat behind the last", x.lie(3, -1), 1);
        x.clears();
        x.swaps(3, 1);
        CHECK.due("a swap of the seat behind the last", x.lie(3, -1), 1);
        x.clears();
        x.tastes(3, 0);
        CHECK.due("taste of a seat that there is not", x.lie(3, -1), 0);
        x.clears();
        x.tastes(0, 3);
        CHECK.due("taste of a cup that there is not", x.lie(3, -1), 0);
        x.clears();
        x.tastes(3, 3);
        CHECK.due("taste of both that there are not", x.lie(3, -1), 0);
        CHECK.due("taste of both that there are not: surely", x.lie(3, 0), -9);
        CHECK.due("taste of both that there are", x.lie(4, -1), 1);
    }

    private static void best() {
        HourWell x = new HourWell();
        x.swaps(3, 4);
        CHECK.due("of several the least", x.lie(5, -2), 3);
        CHECK.due("not there with three", x.lie(3, -2), -9);
        HourWell first = new HourWell();
        first.swaps(0, 1);
        CHECK.due("seat 0", first.lie(2, -2), 0);
        x.swaps(3, 2);
        CHECK.due("the seat of the most cups", x.lie(5, -2), 2);
        CHECK.due("with four cups the last swap alone counts", x.lie(4, -2), 2);
        x.clears();
        x.swaps(0, 1);
        x.swaps(1, 2);
        CHECK.due("seat 1: cups 0, 1, 2", x.lie(3, -2), 1);
        x.tastes(1, 1);
        CHECK.due("one row is left", x.lie(3, -2), -9);
    }
}

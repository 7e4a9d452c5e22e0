/** Promises 2 to 7: ROWS. */
public final class RowsTest {
    private static final int NOTHING = 1, BEYOND = 2, NOUGHT = 4, SIZE = 5;
    private static final Due due = new Due("RowsTest");

    public static void main(String[] args) {
        row();
        layAndAt();
        tear();
        copy();
        copyWrong();
        mean();
        due.end();
    }

    private static void row() {
        WheelWeeks x = new WheelWeeks();
        due.is("row(0, 0)", x.row(0, 0), 0);
        due.is("row(5, 40)", x.row(5, 40), 40);
        due.is("row(5, 41)", x.row(5, 41), -1);
        due.is("row(5, MAX)", x.row(5, Integer.MAX_VALUE), -1);
        due.is("row(-1, 1)", x.row(-1, 1), -1);
        due.is("row(6, -1)", x.row(6, -1), -1);
        due.is("finding()", x.finding(), 0);
        due.finds("row(5, -1)", x, x.row(5, -1), SIZE);
        due.finds("row(5, MIN)", x, x.row(5, Integer.MIN_VALUE), SIZE);
        due.is("at(5, 39)", x.at(5, 39), 1);
        due.is("asked()", x.asked(), 0);
        x.lay(5, 2, 7);
        due.is("row(5, 3)", x.row(5, 3), 3);
        due.is("at(5, 2)", Due.asked(x, x.at(5, 2)), 0);
        due.is("count(8)", x.count(8), 2);
    }

    private static void layAndAt() {
        WheelWeeks x = new WheelWeeks();
        due.finds("lay(0, 0, 1)", x, x.lay(0, 0, 1), NOTHING);
        due.finds("at(0, 0)", x, x.at(0, 0), NOTHING);
        x.row(0, 3);
        due.is("lay(0, 2, MIN)", Due.asked(x, x.lay(0, 2, Integer.MIN_VALUE)), 0);
        due.is("lay(0, 2, 9)", Due.asked(x, x.lay(0, 2, 9)), Integer.MIN_VALUE);
        due.is("at(0, 2)", Due.asked(x, x.at(0, 2)), 9);
        due.finds("lay(0, 3, 1)", x, x.lay(0, 3, 1), BEYOND);
        due.finds("lay(0, -1, 1)", x, x.lay(0, -1, 1), BEYOND);
        due.finds("at(0, 3)", x, x.at(0, 3), BEYOND);
        due.finds("at(0, MIN)", x, x.at(0, Integer.MIN_VALUE), BEYOND);
        due.is("lay(6, 0, 1)", x.lay(6, 0, 1), -1);
        due.is("lay(-1, 0, 1)", x.lay(-1, 0, 1), -1);
        due.is("at(6, 0)", x.at(6, 0), -1);
        due.is("at(-1, 9)", x.at(-1, 9), -1);
        due.is("asked() behind refusals", x.asked(), 9);
        due.is("findings(1)", x.findings(1), 2);
        due.is("findings(2)", x.findings(2), 4);
    }

    private static void tear() {
        WheelWeeks x = new WheelWeeks();
        due.finds("tear(0)", x, x.tear(0), NOTHING);
        x.row(0, 2);
        due.is("tear(0)", x.tear(0), 1);
        due.is("count(8)", x.count(8), 0);
        due.finds("tear(0) again", x, x.tear(0), NOTHING);
        due.finds("at(0, 0)", x, x.at(0, 0), NOTHING);
        due.is("tear(-1)", x.tear(-1), -1);
        due.is("tear(6)", x.tear(6), -1);
    }

    private static void copy() {
        WheelWeeks x = new WheelWeeks();
        Due.row(x, 0, 1, 2, 3, 4, 5);
        Due.row(x, 1, 9, 9, 9);
        due.is("copy(0, 3, 1, 0, 2)", x.copy(0, 3, 1, 0, 2), 1);
        holds(x, 1, 4, 5, 9);
        holds(x, 0, 1, 2, 3, 4, 5);
        due.is("copy on, over itself", x.copy(0, 0, 0, 1, 4), 1);
        holds(x, 0, 1, 1, 2, 3, 4);
        due.is("copy back, over itself", x.copy(0, 1, 0, 0, 4), 1);
        holds(x, 0, 1, 2, 3, 4, 4);
        due.is("none from the end", x.copy(0, 5, 1, 3, 0), 1);
    }

    private static void copyWrong() {
        WheelWeeks x = new WheelWeeks();
        Due.row(x, 0, 1, 2);
        due.is("copy(6, 0, 0, 0, -1)", x.copy(6, 0, 0, 0, -1), -1);
        due.is("copy(0, 0, -1, 0, 0)", x.copy(0, 0, -1, 0, 0), -1);
        due.finds("copy(3, 0, 0, 0, -1)", x, x.copy(3, 0, 0, 0, -1), SIZE);
        due.finds("copy(3, 9, 0, 0, 9)", x, x.copy(3, 9, 0, 0, 9), NOTHING);
        due.finds("copy(0, 9, 3, 0, 9)", x, x.copy(0, 9, 3, 0, 9), NOTHING);
        due.finds("copy(0, 1, 0, 0, 2)", x, x.copy(0, 1, 0, 0, 2), BEYOND);
        due.finds("copy(0, 0, 0, 1, 2)", x, x.copy(0, 0, 0, 1, 2), BEYOND);
        due.finds("copy(0, -1, 0, 0, 1)", x, x.copy(0, -1, 0, 0, 1), BEYOND);
        due.finds("copy(0, 0, 0, -1, 1)", x, x.copy(0, 0, 0, -1, 1), BEYOND);
        due.finds("copy(0, 3, 0, 0, 0)", x, x.copy(0, 3, 0, 0, 0), BEYOND);
        due.finds("copy(0, 1, 0, 0, MAX)", x, x.copy(0, 1, 0, 0, Integer.MAX_VALUE), BEYOND);
        due.finds("copy(0, MAX, 0, 0, MAX)", x,
            x.copy(0, Integer.MAX_VALUE, 0, 0, Integer.MAX_VALUE), BEYOND);
        holds(x, 0, 1, 2);
    }

    private static void mean() {
        WheelWeeks x = new WheelWeeks();
        due.is("mean(6)", x.mean(6), -1);
        due.is("mean(-1)", x.mean(-1), -1);
        due.finds("mean(0)", x, x.mean(0), NOTHING);
        x.row(0, 0);
        due.finds("mean(0)", x, x.mean(0), NOUGHT);
        meanOf(x, 2, 1, 2, 5);
        meanOf(x, 3, 3, 4);
        meanOf(x, -1, -1, -2);
        meanOf(x, Integer.MAX_VALUE, Integer.MAX_VALUE, Integer.MAX_VALUE, Integer.MAX_VALUE);
        meanOf(x, Integer.MIN_VALUE, Integer.MIN_VALUE, Integer.MIN_VALUE);
        meanOf(x, 0, Integer.MIN_VALUE, Integer.MAX_VALUE);
        int[] many = new int[40];
        java.util.Arrays.fill(many, 6);
        meanOf(x, 6, many);
        meanOf(x, 9, 9, 9, 9);
    }

    private static void meanOf(WheelWeeks x, int want, int... numbers) {
        Due.row(x, 0, numbers);
        due.is("mean(0)", Due.asked(x, x.mean(0)), want);
    }

    private static void holds(WheelWeeks x, int r, int... numbers) {
        for (int i = 0; i < numbers.length; i++) {
            due.is("at(" + r + ", " + i + ")", Due.asked(x, x.at(r, i)), numbers[i]);
        }
        due.is("at(" + r + ", its size)", x.at(r, numbers.length), -3);
    }
}

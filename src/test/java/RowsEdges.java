/** The boundary cases of promises 2 to 7: ROWS. */
final class RowsEdges {
    private final Edges e;

    RowsEdges(Edges e) {
        this.e = e;
    }

    void run() {
        numbers();
        row();
        lay();
        at();
        tear();
        copy();
        copyRefused();
        mean();
        meanRefused();
    }

    private void numbers() {
        e.says(Edges.TERMS, "ROWS 0 .. 5 are rows of 0 to 40 ints");
        for (int r = 0; r <= 5; r++) {
            WheelWeeks x = new WheelWeeks();
            e.is(x, "row(" + r + ", 0)", 0);
            e.finds(x, Edges.BEYOND, "at(" + r + ", 0)");
            e.is(x, "row(" + r + ", 40)", 40);
            e.tells(x, "lay(" + r + ", 39, MIN)", 0);
            e.tells(x, "at(" + r + ", 39)", Integer.MIN_VALUE);
            e.tells(x, "lay(" + r + ", 39, MAX)", Integer.MIN_VALUE);
            e.tells(x, "at(" + r + ", 39)", Integer.MAX_VALUE);
            e.is(x, "count(8)", 1);
        }
        WheelWeeks x = new WheelWeeks();
        for (int r = 0; r <= 5; r++) {
            e.run(x, "row(" + r + ", 2) lay(" + r + ", 1, " + (70 + r) + ")");
        }
        for (int r = 0; r <= 5; r++) {
            e.holds(x, r, 0, 70 + r);
        }
        e.is(x, "count(8)", 6);
    }

    private void row() {
        WheelWeeks x = new WheelWeeks();
        e.says(2, "A ROW is there with n ints 0: n.");
        e.is(x, "row(0, 0)", 0);
        e.is(x, "count(8)", 1);
        e.is(x, "row(0, 1)", 1);
        e.holds(x, 0, 0);
        e.is(x, "row(3, 40)", 40);
        for (int i = 0; i < 40; i++) {
            e.run(x, "lay(3, " + i + ", 9)");
        }
        e.is(x, "row(3, 39)", 39);
        e.holds(x, 3, new int[39]);
        e.is(x, "row(3, 40)", 40);
        e.holds(x, 3, new int[40]);
        e.is(x, "count(8)", 2);
        e.says(2, "BAD: also n above 40");
        e.refuses(x, Edges.BAD, "row(3, 41)", "row(3, MAX)", "row(-1, 0)", "row(6, 0)", "row(MIN, 1)", "row(MAX, 1)");
        e.refuses(x, Edges.BAD, "row(5, 41)", "row(6, -1)", "row(-1, MIN)", "row(6, 41)");
        e.says(2, "SIZE: below 0.");
        e.finds(x, Edges.SIZE, "row(3, -1)", "row(3, MIN)", "row(5, -1)");
        e.is(x, "count(8)", 2);
    }

    private void lay() {
        WheelWeeks x = new WheelWeeks();
        e.says(3, "BAD; NOTHING; BEYOND.");
        e.refuses(x, Edges.BAD, "lay(-1, 0, 1)", "lay(6, 0, 1)", "lay(MIN, -1, 1)", "lay(MAX, 40, 1)");
        e.finds(x, Edges.NOTHING, "lay(0, 0, 1)", "lay(5, -1, 1)", "lay(5, MAX, 1)");
        e.run(x, "row(0, 0) row(1, 3) row(2, 40)");
        e.finds(x, Edges.BEYOND, "lay(0, 0, 1)", "lay(0, -1, 1)");
        e.finds(x, Edges.BEYOND, "lay(1, 3, 1)", "lay(1, -1, 1)", "lay(1, MIN, 1)", "lay(1, MAX, 1)");
        e.finds(x, Edges.BEYOND, "lay(2, 40, 1)");
        e.says(3, "Place i of a ROW is v: what it was, told by asked(): 1.");
        e.tells(x, "lay(1, 0, -1)", 0);
        e.tells(x, "lay(1, 2, MIN)", 0);
        e.tells(x, "lay(1, 0, MAX)", -1);
        e.tells(x, "lay(1, 2, 0)", Integer.MIN_VALUE);
        e.holds(x, 1, Integer.MAX_VALUE, 0, 0);
    }

    private void at() {
        WheelWeeks x = new WheelWeeks();
        e.says(4, "BAD; NOTHING; BEYOND.");
        e.refuses(x, Edges.BAD, "at(-1, 0)", "at(6, 0)", "at(MIN, -1)", "at(MAX, 40)");
        e.finds(x, Edges.NOTHING, "at(0, 0)", "at(5, -1)", "at(5, MAX)");
        e.run(x, "row(0, 0) row(1, 3) row(2, 40) lay(1, 0, 5) lay(1, 2, 6) lay(2, 39, 7)");
        e.finds(x, Edges.BEYOND, "at(0, 0)", "at(0, -1)", "at(1, 3)", "at(1, -1)", "at(1, MIN)", "at(1, MAX)");
        e.finds(x, Edges.BEYOND, "at(2, 40)");
        e.says(4, "Place i of a ROW, told by asked(): 1.");
        e.tells(x, "at(1, 0)", 5);
        e.tells(x, "at(1, 2)", 6);
        e.tells(x, "at(2, 39)", 7);
    }

    private void tear() {
        WheelWeeks x = new WheelWeeks();
        e.says(5, "A ROW is missing: 1. BAD; NOTHING.");
        e.refuses(x, Edges.BAD, "tear(-1)", "tear(6)", "tear(MIN)", "tear(MAX)");
        e.finds(x, Edges.NOTHING, "tear(0)", "tear(5)");
        e.run(x, "row(0, 0) row(5, 40) lay(5, 39, 3) row(4, 1)");
        e.is(x, "tear(0)", 1);
        e.is(x, "tear(5)", 1);
        e.is(x, "count(8)", 1);
        e.finds(x, Edges.NOTHING, "tear(0)", "tear(5)", "at(5, 39)", "lay(5, 0, 1)", "mean(5)", "copy(5, 0, 4, 0, 0)");
        e.is(x, "row(5, 40)", 40);
        e.tells(x, "at(5, 39)", 0);
    }

    private void copy() {
        e.says(6, "n places of a ROW, from one on, come to those of another one (perhaps itself) from one on, "
            + "as if taken ahead: 1.");
        WheelWeeks x = new WheelWeeks();
        int[] numbers = new int[40];
        for (int i = 0; i < 40; i++) {
            numbers[i] = 100 + i;
        }
        Due.row(x, 0, numbers);
        e.run(x, "row(1, 40)");
        e.is(x, "copy(0, 0, 1, 0, 40)", 1);
        e.holds(x, 1, numbers);
        e.is(x, "copy(0, 0, 0, 0, 40)", 1);
        e.holds(x, 0, numbers);
        e.run(x, "row(2, 1)");
        e.is(x, "copy(0, 39, 2, 0, 1)", 1);
        e.holds(x, 2, 139);
        overlaps();
        none();
    }

    private void overlaps() {
        WheelWeeks x = new WheelWeeks();
        Due.row(x, 0, 1, 2, 3, 4, 5);
        e.is(x, "copy(0, 0, 0, 1, 4)", 1);
        e.holds(x, 0, 1, 1, 2, 3, 4);
        e.is(x, "copy(0, 1, 0, 0, 4)", 1);
        e.holds(x, 0, 1, 2, 3, 4, 4);
        e.is(x, "copy(0, 0, 0, 2, 3)", 1);
        e.holds(x, 0, 1, 2, 1, 2, 3);
        e.is(x, "copy(0, 0, 0, 4, 1)", 1);
        e.holds(x, 0, 1, 2, 1, 2, 1);
    }

    /** None is as many as there are at the very end, and in an empty ROW. */
    private void none() {
        WheelWeeks x = new WheelWeeks();
        Due.row(x, 0, 1, 2);
        e.run(x, "row(1, 0)");
        for (String call : new String[] {"copy(0, 0, 0, 1, 0)", "copy(0, 2, 0, 2, 0)", "copy(0, 2, 1, 0, 0)",
            "copy(1, 0, 1, 0, 0)"}) {
            e.is(x, call, 1);
        }
        e.holds(x, 0, 1, 2);
        e.holds(x, 1);
    }

    private void copyRefused() {
        WheelWeeks x = new WheelWeeks();
        Due.row(x, 0, 1, 2);
        Due.row(x, 1, 7, 8, 9);
        e.says(6, "BAD; SIZE: n below 0; NOTHING: either; BEYOND: not so many there.");
        e.refuses(x, Edges.BAD, "copy(-1, 0, 0, 0, 1)", "copy(6, 0, 0, 0, 1)", "copy(0, 0, -1, 0, 1)",
            "copy(0, 0, 6, 0, 1)", "copy(6, 0, 5, 0, -1)", "copy(5, 9, MAX, 0, 1)", "copy(MIN, 0, 0, 0, -1)");
        e.says(6, "SIZE: n below 0");
        e.finds(x, Edges.SIZE, "copy(0, 0, 1, 0, -1)", "copy(0, 0, 1, 0, MIN)", "copy(5, 0, 0, 0, -1)",
            "copy(0, 0, 5, 0, -1)", "copy(0, 9, 1, 9, -1)");
        e.says(6, "NOTHING: either");
        e.finds(x, Edges.NOTHING, "copy(5, 0, 0, 0, 1)", "copy(0, 0, 5, 0, 1)", "copy(5, 0, 4, 0, 0)",
            "copy(5, 9, 0, 9, 9)", "copy(0, -1, 5, -1, 9)");
        e.says(6, "BEYOND: not so many there.");
        e.finds(x, Edges.BEYOND, "copy(0, 0, 1, 0, 3)", "copy(1, 0, 0, 0, 3)", "copy(0, 1, 1, 0, 2)",
            "copy(0, 0, 1, 2, 2)", "copy(0, -1, 1, 0, 1)", "copy(0, 0, 1, -1, 1)", "copy(0, 2, 1, 0, 1)",
            "copy(0, 0, 1, 3, 1)", "copy(0, 3, 1, 0, 0)", "copy(0, 0, 1, 4, 0)", "copy(0, -1, 1, 0, 0)");
        e.finds(x, Edges.BEYOND, "copy(0, MAX, 1, 0, 1)", "copy(0, 0, 1, MAX, 1)", "copy(0, 0, 1, 0, MAX)",
            "copy(0, 1, 1, 1, MAX)", "copy(0, MAX, 1, MAX, MAX)", "copy(0, MIN, 1, 0, 1)", "copy(0, 0, 1, MIN, 1)");
        e.holds(x, 0, 1, 2);
        e.holds(x, 1, 7, 8, 9);
    }

    private void mean() {
        e.says(7, "The mean of a ROW's ints, cut, told by asked(): 1.");
        meanIs(3, 7, 0);
        meanIs(-3, -7, 0);
        meanIs(0, 1, 1, 0);
        meanIs(0, -1, -1, 0);
        meanIs(5, 5);
        meanIs(Integer.MAX_VALUE, Integer.MAX_VALUE, Integer.MAX_VALUE);
        meanIs(Integer.MIN_VALUE, Integer.MIN_VALUE);
        meanIs(0, Integer.MIN_VALUE, Integer.MAX_VALUE);
        int[] most = new int[40];
        java.util.Arrays.fill(most, Integer.MAX_VALUE);
        meanIs(Integer.MAX_VALUE, most);
        java.util.Arrays.fill(most, Integer.MIN_VALUE);
        meanIs(Integer.MIN_VALUE, most);
        // an older, longer row of the same ROW must not count
        WheelWeeks x = new WheelWeeks();
        Due.row(x, 0, 90, 90, 90);
        Due.row(x, 0, 4, 6);
        e.tells(x, "mean(0)", 5);
    }

    private void meanIs(int want, int... numbers) {
        WheelWeeks x = new WheelWeeks();
        Due.row(x, 5, numbers);
        e.tells(x, "mean(5)", want);
    }

    private void meanRefused() {
        WheelWeeks x = new WheelWeeks();
        e.says(7, "BAD; NOTHING; NOUGHT.");
        e.refuses(x, Edges.BAD, "mean(-1)", "mean(6)", "mean(MIN)", "mean(MAX)");
        e.finds(x, Edges.NOTHING, "mean(0)", "mean(5)");
        e.run(x, "row(0, 0) row(5, 3)");
        e.finds(x, Edges.NOUGHT, "mean(0)");
        e.run(x, "row(5, 0)");
        e.finds(x, Edges.NOUGHT, "mean(5)");
    }
}

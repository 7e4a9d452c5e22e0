/** Promises 29 to 32: which SPOKE is gone, of which KIND it is, how STRONG, where to look. */
public final class GuessTest {
    private static final int NOTHING = 1, UNLIKE = 3, SIZE = 5;
    private static final String FLAT = "r0000000000c11c11c11c11";
    private static final Due due = new Due("GuessTest");

    public static void main(String[] args) {
        gone();
        goneBehindOver();
        goneWrong();
        strengths();
        kinds();
        ofSpokeWrong();
        look();
        lookWorn();
        asideOnly();
        due.end();
    }

    private static void gone() {
        WheelWeeks x = Due.wheel(FLAT);
        sets(x, 1, 5, 1, 0, 1, 0);
        // none, or two next to one another
        sets(x, 10, 0, 0, 0, 0, 0);
        sets(x, 14, 0, 0);
        sets(x, 2, 1, 1);
        sets(x, 1, 8, 0, 0, 0, 1);
        sets(x, -9, 0, 1, 1);
        x.knock(0);
        sets(x, 10, 0, 0, 0, 0, 0);
        x.step();
        // it stands on SPOKE 1 now
        sets(x, 1, 10, 1, 0, 1, 0);
        sets(x, 1, 10, 1, 0, 1, 0, 1, 0, 1, 0, 1, 0, 1, 0, 1, 0, 1, 0, 1, 0, 1, 0);
    }

    private static void goneBehindOver() {
        WheelWeeks x = Due.wheel("r9999999900c91c91c99c99");
        sets(x, 4, 0, 1, 1, 0, 0);
        // {1}, {3}, {1, 3}: OVER behind one STEP
        sets(x, 3, 2, 1, 0, 0, 0);
        x.step();
        x.step();
        due.is("count(6)", x.count(6), 1);
        // on SPOKE 2: it is there, or OVER already
        sets(x, 14, 0, 0);
    }

    private static void sets(WheelWeeks x, int want, int least, int... limps) {
        Due.row(x, 1, limps);
        x.at(1, 0);
        int told = x.asked();
        due.is("gone(1)", x.gone(1), want);
        due.is("gone(1), asked()", x.asked(), want == -9 ? told : least);
    }

    private static void goneWrong() {
        WheelWeeks x = new WheelWeeks();
        due.is("gone(6), no SPOKES", x.gone(6), -1);
        due.is("gone(0), no SPOKES", x.gone(0), -4);
        WheelWeeks y = Due.wheel(FLAT);
        due.is("gone(-1)", y.gone(-1), -1);
        due.is("gone(6)", y.gone(6), -1);
        due.finds("gone(3), no ROW", y, y.gone(3), NOTHING);
        y.row(3, 0);
        due.finds("gone(3), none", y, y.gone(3), SIZE);
        y.row(3, 21);
        y.lay(3, 0, 2);
        due.finds("gone(3), 21", y, y.gone(3), SIZE);
        Due.row(y, 3, 0, 0, 2);
        due.finds("gone(3), a 2", y, y.gone(3), UNLIKE);
        Due.row(y, 3, -1);
        due.finds("gone(3), a -1", y, y.gone(3), UNLIKE);
        y.row(3, 20);
        due.is("gone(3), 20", y.gone(3), 10);
    }

    private static void strengths() {
        WheelWeeks x = Due.wheel("r5555555500c90c99e99");
        Due.row(x, 0, 0);
        due.is("strengths(0, 0)", x.strengths(0, 0), 1016);
        due.is("strengths(1, 0)", x.strengths(1, 0), 0);
        Due.row(x, 0, 1);
        due.is("strengths(0, 0)", x.strengths(0, 0), 7);
        due.is("strengths(1, 0)", x.strengths(1, 0), 1023);
        Due.row(x, 0, 1, 0, 0);
        due.is("strengths(2, 0), ELM", x.strengths(2, 0), 1022);
        x.knock(0);
        due.is("strengths(0, 0), gone", x.strengths(0, 0), 1023);
        due.is("asked() is not told", x.asked(), 0);
    }

    private static void kinds() {
        WheelWeeks x = Due.wheel("r5555555500c92c93e99");
        Due.row(x, 0, 1, 0);
        due.is("kinds(0, 0)", x.kinds(0, 0), 51);
        due.is("kinds(1, 0)", x.kinds(1, 0), 61);
        Due.row(x, 0, 0);
        due.is("kinds(0, 0)", x.kinds(0, 0), 12);
        Due.row(x, 0, 1, 1);
        due.is("kinds(1, 0)", x.kinds(1, 0), 2);
        due.is("kinds(2, 0)", x.kinds(2, 0), 0);
        due.is("asked() is not told", x.asked(), 0);
    }

    private static void ofSpokeWrong() {
        WheelWeeks x = new WheelWeeks();
        due.is("strengths(0, 0), no SPOKES", x.strengths(0, 0), -1);
        due.is("kinds(0, 0), no SPOKES", x.kinds(0, 0), -1);
        due.is("look(0), no SPOKES", x.look(0), -1);
        WheelWeeks y = Due.wheel(FLAT);
        int[][] bad = {{4, 0}, {-1, 0}, {0, 6}, {0, -1}};
        for (int[] b : bad) {
            due.is("strengths(" + b[0] + ", " + b[1] + ")", y.strengths(b[0], b[1]), -1);
            due.is("kinds(" + b[0] + ", " + b[1] + ")", y.kinds(b[0], b[1]), -1);
        }
        refused(y, NOTHING);
        y.row(2, 0);
        refused(y, SIZE);
        y.row(2, 21);
        y.lay(2, 1, 7);
        refused(y, SIZE);
        Due.row(y, 2, 0, 1, 2);
        refused(y, UNLIKE);
        due.is("look(4)", y.look(4), -1);
        due.is("look(-1)", y.look(-1), -1);
    }

    private static void refused(WheelWeeks x, int finding) {
        due.finds("strengths(0, 2)", x, x.strengths(0, 2), finding);
        due.finds("kinds(0, 2)", x, x.kinds(0, 2), finding);
    }

    private static void look() {
        WheelWeeks x = Due.wheel("r0000000000c14c16i10s11");
        best(x, 0, 9, 4);
        best(x, 1, 7, 5);
        best(x, 2, 0, 6);
        // 2, 1, 2 (5), 2 (5), 2, 2: the SAWN one alone at 2, both ELM ones alone at 5
        best(x, 3, 5, 4);
    }

    private static void lookWorn() {
        WheelWeeks x = Due.wheel("r2222222230c93s93e93g93i93u93");
        x.weather();
        for (int k = 0; k < 18; k++) {
            x.step();
        }
        // WEAR 3: 3, 1, 3 (6), 5 (8), 6, 3 if dry, 6 if wet
        for (int i = 0; i < 6; i++) {
            best(x, i, 5, 3);
        }
        x.weather();
        for (int i = 0; i < 6; i++) {
            best(x, i, 4, 3);
        }
    }

    private static void best(WheelWeeks x, int i, int want, int part) {
        due.is("look(" + i + ")", x.look(i), want);
        due.is("look(" + i + "), asked()", x.asked(), part);
    }

    private static void asideOnly() {
        WheelWeeks x = Due.wheel("r9999999900c91c91c99c99");
        x.limps(4, 0);
        long digest = x.digest();
        x.gone(0);
        x.strengths(0, 0);
        x.kinds(1, 0);
        x.look(2);
        due.is("digest()", x.digest(), digest);
    }
}

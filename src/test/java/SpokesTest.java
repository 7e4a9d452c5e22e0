/** Promises 12 to 14: what SPOKES are, what they tell of their KINDS, what they BEAR. */
public final class SpokesTest {
    private static final int UNLIKE = 3;
    /** All KINDS, 3 STRONG; 9 LONG, so that none is too short. */
    private static final String ALL = "r2222222230c93s93e93g93i93u93";
    private static final Due due = new Due("SpokesTest");

    public static void main(String[] args) {
        bears();
        bearsDry();
        bearsWrong();
        spoke();
        spokeWrong();
        mark();
        markWrong();
        due.end();
    }

    private static void bears() {
        WheelWeeks x = Due.wheel(ALL);
        // on a RUT of depth 4, with WEAR 0, 1, 5, 6, 7, 30
        row(x, 4, 0, 6, 3, 6, 6, 6, 6);
        row(x, 4, 1, 5, 2, 5, 6, 6, 6);
        row(x, 4, 5, 1, 0, 1, 4, 6, 6);
        row(x, 4, 6, 0, 0, 0, 3, 6, 6);
        row(x, 4, 7, 0, 0, 0, 3, 6, 6);
        row(x, 4, 30, 0, 0, 0, 0, 6, 6);
        // 3 more for the ELM ones from depth 5 on
        row(x, 5, 0, 6, 3, 9, 9, 6, 6);
        row(x, 5, 1, 5, 2, 8, 9, 6, 6);
        row(x, 9, 30, 0, 0, 3, 3, 6, 6);
        row(x, 0, 2, 4, 2, 4, 5, 6, 6);
    }

    private static void bearsDry() {
        WheelWeeks x = Due.wheel(ALL);
        x.weather();
        row(x, 4, 0, 6, 3, 6, 6, 6, 6);
        row(x, 4, 2, 4, 2, 4, 5, 6, 4);
        row(x, 9, 7, 0, 0, 3, 6, 6, 0);
        x.weather();
        row(x, 9, 7, 0, 0, 3, 6, 6, 6);
    }

    private static void row(WheelWeeks x, int d, int wear, int... wanted) {
        for (int i = 0; i < wanted.length; i++) {
            due.is("bears(" + i + ", " + d + ", " + wear + ")", x.bears(i, d, wear), wanted[i]);
        }
    }

    private static void bearsWrong() {
        WheelWeeks x = Due.wheel(ALL);
        due.is("bears(6, 0, 0)", x.bears(6, 0, 0), -1);
        due.is("bears(-1, 0, 0)", x.bears(-1, 0, 0), -1);
        due.is("bears(0, 10, 0)", x.bears(0, 10, 0), -1);
        due.is("bears(0, -1, 0)", x.bears(0, -1, 0), -1);
        due.is("bears(0, 0, 31)", x.bears(0, 0, 31), -1);
        due.is("bears(0, 0, -1)", x.bears(0, 0, -1), -1);
        due.is("bears, no SPOKES", new WheelWeeks().bears(0, 0, 0), -1);
    }

    private static void spoke() {
        WheelWeeks x = Due.wheel("r3434343430s72e65u58");
        facets(x, 0, 1, 7, 2, 0, 1, 2);
        facets(x, 1, 2, 6, 5, 0, 1, 10);
        facets(x, 2, 5, 5, 8, 0, 1, 16);
        // RUT 0, of depth 3: SPOKE 0 bears 2 and GOES; RUT 1: SPOKE 1 wears; RUT 2 is even
        due.is("step()", x.step(), 1);
        due.is("step()", x.step(), 0);
        due.is("step()", x.step(), 0);
        facets(x, 0, 1, 7, 2, 0, 0, 2);
        facets(x, 1, 2, 6, 5, 1, 1, 9);
        facets(x, 2, 5, 5, 8, 0, 1, 16);
        WheelWeeks y = Due.wheel("r1515151500e92e92c99");
        facets(y, 0, 2, 9, 2, 0, 1, 4);
        y.step();
        facets(y, 0, 2, 9, 2, 0, 1, 7);
        y.step();
        y.step();
        facets(y, 1, 2, 9, 2, 1, 1, 6);
    }

    private static void facets(WheelWeeks x, int i, int... wanted) {
        for (int what = 0; what < wanted.length; what++) {
            due.is("spoke(" + i + ", " + what + ")", Due.asked(x, x.spoke(i, what)), wanted[what]);
        }
    }

    private static void spokeWrong() {
        WheelWeeks x = Due.wheel(ALL);
        due.is("spoke(6, 0)", x.spoke(6, 0), -1);
        due.is("spoke(-1, 0)", x.spoke(-1, 0), -1);
        due.is("spoke(0, 6)", x.spoke(0, 6), -1);
        due.is("spoke(0, -1)", x.spoke(0, -1), -1);
        due.is("spoke, no SPOKES", new WheelWeeks().spoke(0, 0), -1);
    }

    private static void mark() {
        WheelWeeks x = Due.wheel(ALL);
        marks(x, 3, 100, 100, 0, 100, 100, 0);
        x.weather();
        for (int k = 0; k < 18; k++) {
            x.step();
        }
        // all have WEAR 3 now, on a RUT of depth 2: 3, 1, 3, 5, 6, 3
        marks(x, 2, 100, 102, 2, 103, 100, 3);
        x.weather();
        // as before, but the RUSTED one BEARS 6
        marks(x, 2, 100, 102, 2, 103, 103, 0);
        WheelWeeks y = Due.wheel("r5222222230c93s93e93g93i93u93");
        // depth 5: 6, 3, 9, 9, 6, 6
        marks(y, 3, 103, 103, 0, 100, 100, 0);
    }

    /** SAWN; ELM; GREASED as ELM, as GREASED; IRON; RUSTED as IRON, as RUSTED. */
    private static void marks(WheelWeeks x, int... wanted) {
        int[][] called = {{1, 1}, {2, 2}, {3, 2}, {3, 3}, {4, 4}, {5, 4}, {5, 5}};
        for (int k = 0; k < called.length; k++) {
            due.is("mark(" + called[k][0] + ", " + called[k][1] + ")", x.mark(called[k][0], called[k][1]), wanted[k]);
        }
    }

    private static void markWrong() {
        WheelWeeks x = Due.wheel(ALL);
        String of = "1: 1, 2: 2, 3: 2, 3: 3, 4: 4, 5: 4, 5: 5";
        for (int i = 0; i < 6; i++) {
            for (int kind = 1; kind < 6; kind++) {
                if (!of.contains(i + ": " + kind)) {
                    due.finds("mark(" + i + ", " + kind + ")", x, x.mark(i, kind), UNLIKE);
                }
            }
        }
        due.is("findings(3)", x.findings(3), 23);
        due.is("mark(0, 0)", x.mark(0, 0), -1);
        due.is("mark(0, -1)", x.mark(0, -1), -1);
        due.is("mark(1, 6)", x.mark(1, 6), -1);
        due.is("mark(6, 1)", x.mark(6, 1), -1);
        due.is("mark(-1, 1)", x.mark(-1, 1), -1);
        due.is("mark, no SPOKES", new WheelWeeks().mark(0, 1), -1);
    }
}

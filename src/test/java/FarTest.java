/** Promises 23 to 25: how far it goes, aside. */
public final class FarTest {
    /** SPOKES 0 and 1 GO at once. */
    private static final String FRAIL = "r9999999900c91c91c99c99";
    private static final Due due = new Due("FarTest");

    public static void main(String[] args) {
        goes();
        over();
        overAtLast();
        limps();
        asideOnly();
        wrong();
        due.end();
    }

    private static void goes() {
        WheelWeeks x = Due.wheel(FRAIL);
        far(x, 0, 0, 0);
        far(x, 1, 1, 1);
        far(x, 2, 2, 2);
        far(x, 3, 2, 2);
        far(x, 60, 2, 2);
        x.step();
        far(x, 0, 1, 0);
        far(x, 60, 2, 1);
        x.step();
        far(x, 60, 2, 0);
        WheelWeeks y = Due.wheel("r5353535340c99c99c91c99");
        far(y, 8, 8, 2);
        y.step();
        y.step();
        y.step();
        far(y, 8, 11, 2);
        far(y, 60, 63, 15);
    }

    private static void far(WheelWeeks x, int n, int rut, int limped) {
        due.is("goes(" + n + ")", x.goes(n), rut);
        due.is("goes(" + n + "), asked()", x.asked(), limped);
    }

    private static void over() {
        WheelWeeks x = Due.wheel(FRAIL);
        due.is("over()", x.over(), 2);
        due.is("asked()", x.asked(), 3);
        x.mend(3);
        x.knock(3);
        due.is("over(), 3 gone", x.over(), 1);
        due.is("asked()", x.asked(), 9);
        x.step();
        due.is("over() already", x.over(), 1);
        due.is("asked()", x.asked(), 9);
        WheelWeeks y = Due.wheel("r0000000000c11c11c11");
        x.goes(5);
        due.is("over(): never", y.over(), -9);
        due.is("asked()", y.asked(), 0);
    }

    private static void overAtLast() {
        // dry, a CLEFT one, 7 STRONG, BEARS 1 with WEAR 13 and GOES the 15th time
        WheelWeeks x = Due.wheel("r1111111100i99i99c97c97");
        x.weather();
        due.is("over() behind 60 STEPS", x.over(), 60);
        due.is("asked()", x.asked(), 12);
        // a SAWN one, 8 STRONG, GOES the 16th time
        WheelWeeks y = Due.wheel("r1111111100s98i99i99c97");
        y.weather();
        due.is("over() behind 61 STEPS", y.over(), -9);
        y.step();
        due.is("over() behind 60 STEPS more", y.over(), 61);
        due.is("asked()", y.asked(), 9);
    }

    private static void limps() {
        WheelWeeks x = Due.wheel("r5353535340c99c99c91c99");
        Due.row(x, 2, 7, 7, 7, 7, 7, 7, 7, 7, 7, 7, 7, 7);
        x.goes(1);
        due.is("limps(9, 2)", x.limps(9, 2), 2);
        due.is("asked() is not told", x.asked(), 0);
        holds(x, 2, 0, 0, 1, 0, 0, 0, 1, 0, 0);
        due.is("limps(2, 5)", x.limps(2, 5), 0);
        holds(x, 5, 0, 0);
        due.is("limps(1, 5)", x.limps(1, 5), 0);
        holds(x, 5, 0);
        due.is("limps(20, 0)", x.limps(20, 0), 5);
        due.is("at(0, 19)", x.at(0, 19), 1);
        due.is("at(0, 20)", x.at(0, 20), -3);
        WheelWeeks y = Due.wheel(FRAIL);
        due.is("limps(5, 0), OVER within", y.limps(5, 0), 2);
        holds(y, 0, 1, 1, 0, 0, 0);
    }

    private static void holds(WheelWeeks x, int r, int... wanted) {
        for (int i = 0; i < wanted.length; i++) {
            due.is("at(" + r + ", " + i + ")", Due.asked(x, x.at(r, i)), wanted[i]);
        }
        due.is("at(" + r + ", its size)", x.at(r, wanted.length), -3);
    }

    private static void asideOnly() {
        WheelWeeks x = Due.wheel(FRAIL);
        x.limps(20, 0);
        long digest = x.digest();
        x.goes(60);
        x.over();
        x.limps(20, 0);
        due.is("digest()", x.digest(), digest);
    }

    private static void wrong() {
        WheelWeeks x = new WheelWeeks();
        due.is("goes(61), no SPOKES", x.goes(61), -1);
        due.is("goes(60), no SPOKES", x.goes(60), -4);
        due.is("over(), no SPOKES", x.over(), -4);
        due.is("limps(0, 0), no SPOKES", x.limps(0, 0), -1);
        due.is("limps(1, 0), no SPOKES", x.limps(1, 0), -4);
        due.is("count(8)", x.count(8), 0);
        WheelWeeks y = Due.wheel(FRAIL);
        due.is("goes(-1)", y.goes(-1), -1);
        due.is("goes(61)", y.goes(61), -1);
        due.is("limps(0, 0)", y.limps(0, 0), -1);
        due.is("limps(21, 0)", y.limps(21, 0), -1);
        due.is("limps(1, -1)", y.limps(1, -1), -1);
        due.is("limps(1, 6)", y.limps(1, 6), -1);
        due.is("count(8)", y.count(8), 0);
    }
}

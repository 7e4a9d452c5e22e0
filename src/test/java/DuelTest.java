/** Promise 33: by turns of a carter and a wright. */
public final class DuelTest {
    private static final Due due = new Due("DuelTest");

    public static void main(String[] args) {
        flat();
        goneAlready();
        putInAnew();
        noneIsBetter();
        aside();
        wrong();
        due.end();
    }

    private static void flat() {
        duels(Due.wheel("r0000000000c11c11c11c11"), 0, 3, 0, 3, 0);
        duels(Due.wheel("r0000000000c11c11c11"), 0, 4, 0, 4, 0);
        // two STEPS of the twelve go round to SPOKES 0 to 3 a second time
        duels(Due.wheel("r0000000000c11c11c11c11c11c11c11c11"), 0, 2, 0, 2, 0);
    }

    private static void goneAlready() {
        WheelWeeks x = Due.wheel("r0000000000c11c11c11");
        x.knock(0);
        duels(x, 4, 12, 4, 12, 4);
        x.knock(1);
        // the carter knocks out the last one, and one put in is not enough
        duels(x, 12, 12, 12, 12, 12);
    }

    private static void putInAnew() {
        // SPOKE 0 is worn out, and SPOKE 1 is next
        WheelWeeks x = Due.wheel("r1111111100c93i99i99");
        x.weather();
        for (int k = 0; k < 16; k++) {
            x.step();
        }
        // 0: it GOES at the third STEP; 1: with 1 or 2 gone it is OVER then, behind 2 that LIMP
        due.is("duel(0)", x.duel(0), 4);
        due.is("duel(1)", x.duel(1), 11);
        due.is("duel(2)", x.duel(2), 4);
        x.knock(0);
        due.is("duel(2), 0 gone", x.duel(2), 4);
        x.knock(1);
        due.is("duel(0), OVER", x.duel(0), 12);
        due.is("duel(2), OVER", x.duel(2), 12);
    }

    private static void noneIsBetter() {
        // all worn out: whatever the carter knocks out, the wright puts in anew
        WheelWeeks x = Due.wheel("r1111111100c92c92c92");
        x.weather();
        for (int k = 0; k < 12; k++) {
            due.is("step()", x.step(), 0);
        }
        // two GO, then it is OVER
        due.is("duel(0)", x.duel(0), 12);
        due.is("duel(2): the carter knocks out none", x.duel(2), 12);
        // one that the wright puts in, worn out no more, doesn't LIMP once
        x.knock(0);
        due.is("duel(0), 0 gone", x.duel(0), 12);
        due.is("duel(2), 0 gone", x.duel(2), 11);
    }

    private static void duels(WheelWeeks x, int... wanted) {
        for (int n = 0; n < wanted.length; n++) {
            due.is("duel(" + n + ")", x.duel(n), wanted[n]);
        }
    }

    private static void aside() {
        WheelWeeks x = Due.wheel("r9999999900c91c91c99c99");
        long digest = x.digest();
        x.duel(4);
        due.is("digest()", x.digest(), digest);
        due.is("asked() is not told", x.asked(), 0);
    }

    private static void wrong() {
        WheelWeeks x = new WheelWeeks();
        due.is("duel(5), no SPOKES", x.duel(5), -1);
        due.is("duel(-1), no SPOKES", x.duel(-1), -1);
        due.is("duel(0), no SPOKES", x.duel(0), -4);
        WheelWeeks y = Due.wheel("r0000000000c11c11c11");
        due.is("duel(5)", y.duel(5), -1);
        due.is("duel(-1)", y.duel(-1), -1);
    }
}

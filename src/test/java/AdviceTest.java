/** Promises 26 to 28: what to put in, where to stand, what to change round. */
public final class AdviceTest {
    private static final Due due = new Due("AdviceTest");

    public static void main(String[] args) {
        gate();
        gateByWear();
        gateThereAlready();
        turned();
        change();
        changeOfGoneOnes();
        changeWithWear();
        asideOnly();
        noSpokes();
        due.end();
    }

    private static void gate() {
        advice("gate of frail ones", Due.wheel("r9999999905c91c91c99c99"), "gate", -9, 0);
        advice("gate at which it is OVER", Due.wheel("r9999999902c91c91c99c99"), "gate", 0, 0);
        WheelWeeks x = Due.wheel("r0000000010c11c11c11c11");
        advice("gate, all there", x, "gate", 0, 0);
        x.knock(1);
        x.knock(2);
        advice("gate, 1 and 2 gone", x, "gate", 1, 2);
        x.knock(3);
        advice("gate, 1, 2, 3 gone", x, "gate", 1, 4);
        x.knock(0);
        advice("gate, all gone", x, "gate", 2, 5);
    }

    private static void gateByWear() {
        // dry, SPOKES 1 and 2 GO the 15th time, on RUTS 57 and 58
        WheelWeeks x = Due.wheel("r1111111160i99c97c97i99");
        x.weather();
        advice("gate, none worn", x, "gate", -9, 0);
        for (int k = 0; k < 8; k++) {
            x.step();
        }
        advice("gate, one put in that is there", x, "gate", 1, 2);
    }

    private static void gateThereAlready() {
        WheelWeeks x = Due.wheel("r0000000002c11c11c11");
        x.step();
        x.step();
        x.knock(0);
        x.knock(1);
        advice("gate, it is there, OVER", x, "gate", 0, 0);
        x.undo(2);
        x.step();
        x.knock(0);
        x.knock(1);
        advice("gate, it is beyond, OVER", x, "gate", 0, 0);
        x.undo(1);
        x.knock(0);
        x.knock(1);
        advice("gate, it is ahead, OVER", x, "gate", 1, 1);
    }

    private static void turned() {
        advice("turned, well so", Due.wheel("r9191919100c99i11c99i11"), "turned", 0, 0);
        advice("turned by one", Due.wheel("r9191919100i11c99i11c99"), "turned", 1, 0);
        // OVER behind 2, 4, 4, 3 STEPS
        advice("turned, OVER soon", Due.wheel("r9999999900c91c91c99c99"), "turned", 1, 18);
        WheelWeeks x = Due.wheel("r9191919100c99i11c99i11");
        x.step();
        advice("turned, on RUT 1", x, "turned", 1, 0);
        x.knock(0);
        x.knock(1);
        advice("turned, OVER", x, "turned", 0, 20);
    }

    private static void change() {
        advice("change, none better", Due.wheel("r9191919100c99i11c99i11"), "change", -9, 0);
        advice("change, all alike", Due.wheel("r9191919100i11c99i11c99"), "change", 1, 5);
        advice("change, the best", Due.wheel("r9911119900c99i11i11c99i11i11c99c99"), "change", 13, 0);
        advice("change 0 and 2", Due.wheel("r2292222200i99i99i29i99i99i99i99i99"), "change", 2, 0);
    }

    private static void changeOfGoneOnes() {
        WheelWeeks x = Due.wheel("r0000000000c11c11c11c11");
        x.knock(0);
        advice("change, one gone", x, "change", -9, 0);
        x.knock(1);
        advice("change, 0 and 1 gone", x, "change", 3, 10);
        x.undo(1);
        x.knock(2);
        advice("change, 0 and 2 gone", x, "change", -9, 0);
    }

    private static void changeWithWear() {
        // SPOKE 0 stands on RUTS of depth 1, the other ones on those of depth 0
        WheelWeeks x = Due.wheel("r1000100000c92c91c91c92");
        x.weather();
        for (int k = 0; k < 16; k++) {
            due.is("step()", x.step(), 0);
        }
        // WEAR 4 each: SPOKE 0 GOES at once, whichever it is; anew, it goes through 4 times
        advice("change, all worn", x, "change", -9, 0);
        x.mend(3);
        advice("change, 3 is anew", x, "change", 3, 1);
    }

    private static void asideOnly() {
        WheelWeeks x = Due.wheel("r9191919100i11c99i11c99");
        x.step();
        x.knock(3);
        long digest = x.digest();
        x.gate();
        x.turned();
        x.change();
        due.is("digest()", x.digest(), digest);
    }

    private static void noSpokes() {
        WheelWeeks x = new WheelWeeks();
        due.is("gate()", x.gate(), -4);
        due.is("turned()", x.turned(), -4);
        due.is("change()", x.change(), -4);
    }

    /** NONE leaves asked() as it was: here the 77 that at() told. */
    private static void advice(String told, WheelWeeks x, String call, int want, int asked) {
        Due.row(x, 0, 77);
        x.at(0, 0);
        int got = call.equals("gate") ? x.gate() : call.equals("turned") ? x.turned() : x.change();
        due.is(told, got, want);
        due.is(told + ", asked()", x.asked(), want == -9 ? 77 : asked);
    }
}

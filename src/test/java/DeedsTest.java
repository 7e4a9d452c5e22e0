/** Promises 15 to 22 and 36: DEEDS, undone, kept, by LOTS. */
public final class DeedsTest {
    private static final int NOTHING = 1;
    private static final String FLAT = "r0000000000c11c11c11c11";
    private static final Due due = new Due("DeedsTest");

    public static void main(String[] args) {
        step();
        stepTooShort();
        stepDry();
        stepOver();
        overRoundTheWheel();
        wearAtMost();
        soak();
        weather();
        knock();
        mend();
        full();
        noSpokes();
        undo();
        keep();
        keptDeeds();
        lots();
        lotsWrong();
        due.end();
    }

    private static void step() {
        WheelWeeks x = Due.wheel("r5353535340c99c99c91c99");
        int[] limped = {0, 0, 1, 0, 0, 0, 1, 0, 0};
        for (int k = 0; k < limped.length; k++) {
            due.is("step() " + k, x.step(), limped[k]);
        }
        due.is("count(1)", x.count(1), 9);
        due.is("count(3)", x.count(3), 1);
        due.is("count(4)", x.count(4), 11);
        // in wet WEATHER the even RUTS of SPOKES 0 and 2 wear nothing
        wears(x, 0, 2, 0, 2);
    }

    private static void stepTooShort() {
        WheelWeeks x = Due.wheel("r5555555540c49c59c53c52");
        due.is("step(), too short", x.step(), 1);
        due.is("step(), as LONG as deep", x.step(), 0);
        due.is("step(), BEARS 6", x.step(), 0);
        due.is("step(), BEARS 4", x.step(), 1);
        due.is("count(4): too short, but there", x.count(4), 7);
        WheelWeeks y = Due.wheel("r5555555540e51i92c99");
        due.is("step(), an ELM one BEARS 5 of 5", y.step(), 0);
        due.is("step(), an IRON one BEARS 4 of 5", y.step(), 1);
    }

    private static void stepDry() {
        WheelWeeks x = Due.wheel("r1111111140c99c99c99");
        x.weather();
        for (int k = 0; k < 7; k++) {
            due.is("step()", x.step(), 0);
        }
        wears(x, 3, 2, 2);
        x.weather();
        x.step();
        x.step();
        x.step();
        // RUTS 7, 8, 9 by SPOKES 1, 2, 0
        wears(x, 4, 3, 2);
    }

    private static void stepOver() {
        WheelWeeks x = Due.wheel("r9999999900c91c91c99c99");
        due.is("step()", x.step(), 1);
        due.is("count(6)", x.count(6), 0);
        due.is("step()", x.step(), 1);
        due.is("count(6)", x.count(6), 1);
        due.is("step(), OVER", x.step(), -4);
        due.is("count(1)", x.count(1), 2);
        due.is("count(2)", x.count(2), 2);
        due.is("soak(), OVER", x.soak(), 0);
        due.is("weather(), OVER", x.weather(), 1);
        due.is("knock(3), OVER", x.knock(3), 0);
        due.is("mend(1), OVER", x.mend(1), 1);
        due.is("count(6), 0 and 3 gone", x.count(6), 1);
        due.is("mend(3)", x.mend(3), 1);
        due.is("count(6), 0 gone", x.count(6), 0);
        due.is("step() again", x.step(), 0);
    }

    private static void overRoundTheWheel() {
        for (int i = 0; i < 8; i++) {
            for (int j = 0; j < 8; j++) {
                WheelWeeks x = Due.wheel("r0000000000c11c11c11c11c11c11c11c11");
                x.knock(i);
                x.knock(j);
                boolean next = (i + 1) % 8 == j || (j + 1) % 8 == i;
                due.is("count(6), " + i + " and " + j + " gone", x.count(6), next ? 1 : 0);
            }
        }
        WheelWeeks x = Due.wheel("r0000000000c11c11c11");
        x.knock(0);
        x.knock(2);
        due.is("count(6) of three", x.count(6), 1);
    }

    private static void wearAtMost() {
        // a GREASED one BEARS 3 with WEAR 30 or 31, but 2 with 32
        WheelWeeks x = Due.wheel("r3333333360g99g99g99");
        x.weather();
        for (int k = 0; k < 39; k++) {
            x.step();
        }
        wears(x, 13, 13, 13);
        due.is("over()", x.over(), -9);
        due.is("goes(60)", x.goes(60), 99);
        due.is("asked()", x.asked(), 0);
    }

    private static void soak() {
        WheelWeeks eight = Due.wheel("r0000000000c11c11c11c11c11c11c11c11");
        eight.weather();
        eight.lots(20, 7);
        due.is("soak() of eight", eight.soak() >= 0 ? 1 : 0, 1);
        WheelWeeks x = Due.wheel("r1111111140c99c99c99");
        x.weather();
        for (int k = 0; k < 8; k++) {
            x.step();
        }
        wears(x, 3, 3, 2);
        x.knock(0);
        due.is("soak(), gone ones too", x.soak(), 3);
        wears(x, 1, 1, 1);
        due.is("soak()", x.soak(), 0);
        due.is("count(2)", x.count(2), 12);
    }

    private static void weather() {
        WheelWeeks x = Due.wheel(FLAT);
        due.is("count(5)", x.count(5), 0);
        due.is("weather()", x.weather(), 1);
        due.is("count(5)", x.count(5), 1);
        due.is("weather()", x.weather(), 0);
        due.is("count(5)", x.count(5), 0);
        due.is("count(2)", x.count(2), 2);
    }

    private static void knock() {
        WheelWeeks x = Due.wheel(FLAT);
        x.weather();
        x.step();
        due.is("knock(0)", x.knock(0), 1);
        due.is("spoke(0, 3): WEAR as it was", Due.asked(x, x.spoke(0, 3)), 1);
        due.is("spoke(0, 4)", Due.asked(x, x.spoke(0, 4)), 0);
        due.is("knock(0) again", x.knock(0), -4);
        due.is("knock(4)", x.knock(4), -1);
        due.is("knock(-1)", x.knock(-1), -1);
        due.is("knock(3)", x.knock(3), 0);
        due.is("count(4)", x.count(4), 6);
        due.is("count(2)", x.count(2), 4);
    }

    private static void mend() {
        WheelWeeks x = Due.wheel(FLAT);
        x.weather();
        x.step();
        x.step();
        x.knock(0);
        due.is("mend(0)", x.mend(0), 1);
        due.is("mend(0) again", x.mend(0), 0);
        due.is("mend(1)", x.mend(1), 0);
        wears(x, 0, 0, 0, 0);
        due.is("mend(4)", x.mend(4), -1);
        due.is("mend(-1)", x.mend(-1), -1);
        due.is("count(2)", x.count(2), 7);
    }

    private static void full() {
        WheelWeeks x = Due.wheel(FLAT);
        for (int k = 0; k < 40; k++) {
            x.soak();
        }
        long digest = x.digest();
        due.is("count(2)", x.count(2), 40);
        due.is("step()", x.step(), -2);
        due.is("soak()", x.soak(), -2);
        due.is("weather()", x.weather(), -2);
        due.is("knock(0)", x.knock(0), -2);
        due.is("mend(0)", x.mend(0), -2);
        due.is("lots(1, 1)", x.lots(1, 1), -2);
        due.is("knock(9): BAD ahead of FULL", x.knock(9), -1);
        due.is("mend(9): BAD ahead of FULL", x.mend(9), -1);
        due.is("lots(0, 1): BAD ahead of FULL", x.lots(0, 1), -1);
        due.is("digest() as before", x.digest(), digest);
        x.undo(38);
        x.knock(0);
        x.knock(1);
        due.is("step(): STATE ahead of FULL", x.step(), -4);
        due.is("knock(0): STATE ahead of FULL", x.knock(0), -4);
    }

    private static void noSpokes() {
        WheelWeeks x = new WheelWeeks();
        due.is("step()", x.step(), -4);
        due.is("soak()", x.soak(), -4);
        due.is("weather()", x.weather(), -4);
        due.is("knock(0)", x.knock(0), -1);
        due.is("mend(0)", x.mend(0), -1);
        due.is("undo(0)", x.undo(0), 0);
        due.is("undo(1)", x.undo(1), -1);
        due.is("keep(0)", x.keep(0), -4);
        due.is("keep(3)", x.keep(3), -1);
        due.finds("on(0)", x, x.on(0), NOTHING);
        due.is("on(3)", x.on(3), -1);
        due.is("lots(1, 1)", x.lots(1, 1), -4);
    }

    private static void undo() {
        WheelWeeks x = Due.wheel("r2323232340c99c91s95g99u95");
        // t turns the WEATHER, s is a STEP, w is SOAKING, k2 knocks out, m2 puts in
        String[] script = "t s s s s k3 s m3 s w s s m0 t s s k4 s s m4".split(" ");
        long[] digests = new long[script.length + 1];
        digests[0] = x.digest();
        for (int k = 0; k < script.length; k++) {
            due.is("deed " + script[k] + " is done", deed(x, script[k]) >= 0 ? 1 : 0, 1);
            digests[k + 1] = x.digest();
        }
        due.is("undo(21)", x.undo(21), -1);
        due.is("undo(-1)", x.undo(-1), -1);
        due.is("undo(20)", x.undo(20), 0);
        due.is("digest()", x.digest(), digests[20]);
        for (int n = 19; n >= 0; n--) {
            due.is("undo(" + n + ")", x.undo(n), 1);
            due.is("digest()", x.digest(), digests[n]);
        }
        x.lots(20, 5);
        due.is("undo(4) of 20", x.undo(4), 16);
        due.is("count(2)", x.count(2), 4);
    }

    private static int deed(WheelWeeks x, String told) {
        int i = told.length() > 1 ? told.charAt(1) - '0' : 0;
        switch (told.charAt(0)) {
            case 't': return x.weather();
            case 's': return x.step();
            case 'w': return x.soak();
            case 'k': return x.knock(i);
            default: return x.mend(i);
        }
    }

    private static void keep() {
        WheelWeeks x = Due.wheel("r2323232340c99c91s95g99u55");
        x.weather();
        x.step();
        due.is("keep(1)", x.keep(1), 2);
        x.step();
        x.knock(3);
        long digest = x.digest();
        due.is("keep(2)", x.keep(2), 4);
        due.is("count(10)", x.count(10), 2);
        due.is("on(1)", x.on(1), 2);
        due.is("count(1)", x.count(1), 1);
        due.is("count(4)", x.count(4), 31);
        x.mend(0);
        due.is("undo(1): kept DEEDS are undone too", x.undo(1), 2);
        due.is("count(1)", x.count(1), 0);
        due.is("count(5)", x.count(5), 1);
        due.is("on(1) again", x.on(1), 2);
        due.is("on(2)", x.on(2), 4);
        due.is("digest() but for what is kept", x.digest() == digest ? 1 : 0, 0);
        due.is("count(4)", x.count(4), 21);
        due.is("undo(0)", x.undo(0), 4);
        due.is("keep(1) over the one there", x.keep(1), 0);
        due.is("on(1)", x.on(1), 0);
        due.is("count(10)", x.count(10), 2);
        due.finds("on(0)", x, x.on(0), NOTHING);
        due.is("keep(-1)", x.keep(-1), -1);
        due.is("keep(3)", x.keep(3), -1);
        due.is("on(-1)", x.on(-1), -1);
        due.is("on(3)", x.on(3), -1);
    }

    /** Behind on() the kept DEEDS are undone, not those that were done since. */
    private static void keptDeeds() {
        WheelWeeks x = Due.wheel(FLAT);
        x.weather();
        x.knock(1);
        x.step();
        long digest = x.digest();
        x.mend(1);
        x.keep(0);
        x.undo(0);
        x.step();
        x.step();
        x.knock(3);
        x.soak();
        x.soak();
        x.keep(1);
        due.is("on(0)", x.on(0), 4);
        due.is("undo(3)", x.undo(3), 1);
        due.is("count(4)", x.count(4), 13);
        x.wheel(0);
        x.weather();
        x.knock(1);
        x.step();
        due.is("digest() behind the same DEEDS", x.digest(), digest);
    }

    /** Each DEED by hand, as the LOTS tell it. */
    private static void lots() {
        for (int seed : new int[] {1, 2, 7, 4711, 31337, 1000000007, 2147483646}) {
            WheelWeeks x = Due.wheel("r5353535340c92c33s94e93u55");
            WheelWeeks y = Due.wheel("r5353535340c92c33s94e93u55");
            due.is("lots(20, " + seed + ")", x.lots(20, seed), byHand(y, 20, seed));
            due.is("digest()", x.digest(), y.digest());
            due.is("lots(13, " + seed + ")", x.lots(13, seed), byHand(y, 13, seed));
            due.is("digest()", x.digest(), y.digest());
            due.is("lots(8, 1)", x.lots(8, 1), -2);
            due.is("lots(7, 1)", x.lots(7, 1), byHand(y, 7, 1));
            due.is("digest()", x.digest(), y.digest());
        }
        // 48271 modulo 6 is 1, by 8 it is 6033, modulo 4 that is 1
        WheelWeeks x = Due.wheel(FLAT);
        x.knock(1);
        due.is("lots(1, 1)", x.lots(1, 1), 0);
        due.is("count(4)", x.count(4), 15);
    }

    private static int byHand(WheelWeeks y, int n, int seed) {
        long lot = seed;
        for (int k = 0; k < n; k++) {
            lot = lot * 48271 % 2147483647;
            if (lot % 6 == 0) {
                y.weather();
            } else if (lot % 6 == 1) {
                y.mend((int) (lot / 8 % y.count(0)));
            } else if (y.count(6) == 1) {
                y.soak();
            } else {
                y.step();
            }
        }
        return y.count(1);
    }

    private static void lotsWrong() {
        WheelWeeks x = Due.wheel(FLAT);
        due.is("lots(0, 1)", x.lots(0, 1), -1);
        due.is("lots(21, 1)", x.lots(21, 1), -1);
        due.is("lots(1, 0)", x.lots(1, 0), -1);
        due.is("lots(1, -5)", x.lots(1, -5), -1);
        due.is("lots(1, 2147483647)", x.lots(1, 2147483647), -1);
        due.is("count(2)", x.count(2), 0);
    }

    private static void wears(WheelWeeks x, int... wanted) {
        for (int i = 0; i < wanted.length; i++) {
            due.is("spoke(" + i + ", 3)", Due.asked(x, x.spoke(i, 3)), wanted[i]);
        }
    }
}

/** The boundary cases of promises 12 to 14, and of what a SPOKE BEARS. */
final class SpokesEdges {
    private static final int CLEFT = 0, SAWN = 1, ELM = 2, GREASED = 3, IRON = 4, RUSTED = 5;
    private final Edges e;

    SpokesEdges(Edges e) {
        this.e = e;
    }

    void run() {
        cleft();
        sawn();
        elm();
        greased();
        iron();
        rusted();
        spoke();
        spokeThereOrNot();
        mark();
        markRefused();
        bears();
    }

    /** What a SPOKE of a KIND BEARS, so STRONG, on a RUT so deep, with so much WEAR. */
    private void bears(int kind, int strong, boolean dry, int d, int wear, int want) {
        WheelWeeks x = Due.wheel("r0000000000" + "csegiu".charAt(kind) + "1" + strong + "c11c11");
        if (dry) {
            x.weather();
        }
        e.is("KIND " + kind + ", STRONG " + strong + (dry ? ", dry" : ", wet") + ", bears(0, " + d + ", " + wear + ")",
            x.bears(0, d, wear), want);
    }

    private void bothWeathers(int kind, int strong, int d, int wear, int want) {
        bears(kind, strong, false, d, wear, want);
        bears(kind, strong, true, d, wear, want);
    }

    private void cleft() {
        e.says(Edges.TERMS, "On a RUT of depth d with so much WEAR a SPOKE BEARS as much as 2 for each of STRONG, "
            + "less WEAR (0 at least);");
        bothWeathers(CLEFT, 0, 0, 0, 0);
        bothWeathers(CLEFT, 0, 9, 30, 0);
        bothWeathers(CLEFT, 9, 0, 0, 18);
        bothWeathers(CLEFT, 9, 9, 0, 18);
        bothWeathers(CLEFT, 9, 5, 17, 1);
        bothWeathers(CLEFT, 9, 5, 18, 0);
        bothWeathers(CLEFT, 9, 5, 19, 0);
        bothWeathers(CLEFT, 9, 5, 30, 0);
        bothWeathers(CLEFT, 1, 4, 1, 1);
    }

    private void sawn() {
        e.says(Edges.TERMS, "a SAWN one half (cut) of that;");
        bothWeathers(SAWN, 0, 9, 0, 0);
        bothWeathers(SAWN, 9, 9, 0, 9);
        bothWeathers(SAWN, 9, 0, 1, 8);
        bothWeathers(SAWN, 9, 0, 2, 8);
        bothWeathers(SAWN, 9, 0, 3, 7);
        bothWeathers(SAWN, 1, 5, 0, 1);
        bothWeathers(SAWN, 1, 5, 1, 0);
        bothWeathers(SAWN, 1, 5, 3, 0);
        bothWeathers(SAWN, 1, 5, 30, 0);
    }

    private void elm() {
        e.says(Edges.TERMS, "an ELM one as a CLEFT one, and 3 more on a RUT of depth 5 or more;");
        bothWeathers(ELM, 9, 0, 0, 18);
        bothWeathers(ELM, 9, 4, 0, 18);
        bothWeathers(ELM, 9, 5, 0, 21);
        bothWeathers(ELM, 9, 9, 0, 21);
        bothWeathers(ELM, 1, 4, 3, 0);
        bothWeathers(ELM, 1, 5, 2, 3);
        bothWeathers(ELM, 1, 5, 3, 3);
        bothWeathers(ELM, 0, 9, 30, 3);
        bothWeathers(ELM, 0, 4, 30, 0);
    }

    private void greased() {
        e.says(Edges.TERMS, "a GREASED one as an ELM one, with half (cut) of the WEAR;");
        bothWeathers(GREASED, 9, 4, 0, 18);
        bothWeathers(GREASED, 9, 4, 1, 18);
        bothWeathers(GREASED, 9, 4, 2, 17);
        bothWeathers(GREASED, 9, 4, 3, 17);
        bothWeathers(GREASED, 9, 4, 30, 3);
        bothWeathers(GREASED, 9, 5, 29, 7);
        bothWeathers(GREASED, 9, 5, 30, 6);
        bothWeathers(GREASED, 1, 4, 5, 0);
        bothWeathers(GREASED, 1, 4, 6, 0);
        bothWeathers(GREASED, 1, 5, 6, 3);
        bothWeathers(GREASED, 0, 9, 30, 3);
    }

    private void iron() {
        e.says(Edges.TERMS, "an IRON one as a CLEFT one with no WEAR;");
        bothWeathers(IRON, 9, 9, 30, 18);
        bothWeathers(IRON, 9, 4, 0, 18);
        bothWeathers(IRON, 1, 5, 30, 2);
        bothWeathers(IRON, 0, 0, 30, 0);
    }

    private void rusted() {
        e.says(Edges.TERMS, "a RUSTED one as an IRON one, in dry WEATHER less the WEAR (0 at least).");
        bears(RUSTED, 9, false, 9, 30, 18);
        bears(RUSTED, 9, true, 9, 0, 18);
        bears(RUSTED, 9, true, 9, 1, 17);
        bears(RUSTED, 9, true, 0, 17, 1);
        bears(RUSTED, 9, true, 9, 18, 0);
        bears(RUSTED, 9, true, 9, 19, 0);
        bears(RUSTED, 9, true, 5, 30, 0);
        bears(RUSTED, 0, true, 0, 30, 0);
        bears(RUSTED, 0, false, 9, 30, 0);
    }

    private void spoke() {
        e.says(12, "told by asked(): 1. BAD.");
        WheelWeeks none = new WheelWeeks();
        e.refuses(none, Edges.BAD, "spoke(0, 0)", "spoke(-1, 0)", "spoke(0, 5)", "spoke(0, 6)");
        WheelWeeks three = Due.wheel("r0000000000c11c11c92");
        e.tells(three, "spoke(2, 1)", 9);
        e.tells(three, "spoke(2, 5)", 4);
        e.refuses(three, Edges.BAD, "spoke(3, 0)", "spoke(-1, 0)", "spoke(0, -1)", "spoke(0, 6)", "spoke(MIN, 0)",
            "spoke(MAX, 0)", "spoke(2, MIN)", "spoke(2, MAX)");
        WheelWeeks eight = Due.wheel("r0000000000c11c11c11c11c11c11c11u90");
        e.tells(eight, "spoke(7, 0)", 5);
        e.tells(eight, "spoke(7, 1)", 9);
        e.tells(eight, "spoke(7, 2)", 0);
        e.refuses(eight, Edges.BAD, "spoke(8, 0)", "spoke(8, 6)");
    }

    private void spokeThereOrNot() {
        e.says(12, "4 whether it is there (1, 0), 5 what it BEARS on the RUT on which the WHEEL stands (there or not)");
        WheelWeeks x = Due.wheel("r0500000000c92e93c11c11");
        e.run(x, "weather() step()");
        e.tells(x, "spoke(0, 4)", 1);
        e.tells(x, "spoke(0, 5)", 3);
        e.tells(x, "spoke(1, 5)", 9);
        e.run(x, "knock(0)");
        e.tells(x, "spoke(0, 4)", 0);
        e.tells(x, "spoke(0, 3)", 1);
        e.tells(x, "spoke(0, 5)", 3);
        e.run(x, "knock(1)");
        e.tells(x, "spoke(1, 5)", 9);
        // put in anew: no WEAR
        e.run(x, "mend(0)");
        e.tells(x, "spoke(0, 4)", 1);
        e.tells(x, "spoke(0, 5)", 4);
    }

    /** Marks by SPOKES worn by 3 (6 STEPS each in dry WEATHER make 1). */
    private static WheelWeeks worn(String road, int times) {
        WheelWeeks x = Due.wheel(road + "c93s93e93g93i93u93");
        x.weather();
        for (int k = 0; k < 6 * times; k++) {
            x.step();
        }
        return x;
    }

    private void mark() {
        e.says(13, "a SAWN one how much less it BEARS than a CLEFT one alike");
        e.is(worn("r0000000000", 0), "mark(1, 1)", 3);
        e.is(worn("r0000000000", 1), "mark(1, 1)", 3);
        e.is(worn("r0000000000", 6), "mark(1, 1)", 0);
        e.says(13, "an ELM one (GREASED, too) how much more than a CLEFT one alike, and 100");
        e.is(worn("r4000000000", 0), "mark(2, 2)", 100);
        e.is(worn("r5000000000", 0), "mark(2, 2)", 103);
        e.is(worn("r4000000000", 0), "mark(3, 2)", 100);
        e.is(worn("r5000000000", 0), "mark(3, 2)", 103);
        e.is(worn("r0000000000", 1), "mark(3, 2)", 101);
        e.is(worn("r0000000000", 6), "mark(3, 2)", 103);
        // RUT 12 is RUT 4, of depth 5
        e.is(worn("r0000500000", 2), "mark(3, 2)", 104);
        e.says(13, "a GREASED one how much more than an ELM one alike");
        e.is(worn("r5000000000", 0), "mark(3, 3)", 0);
        e.is(worn("r0000000000", 1), "mark(3, 3)", 1);
        e.is(worn("r0000000000", 6), "mark(3, 3)", 3);
        e.is(worn("r0000500000", 2), "mark(3, 3)", 1);
        e.says(13, "an IRON one (RUSTED, too) how much more than a CLEFT one alike, and 100 (below that, if less)");
        e.is(worn("r9000000000", 0), "mark(4, 4)", 100);
        e.is(worn("r0000000000", 6), "mark(4, 4)", 106);
        e.is(worn("r0000000000", 0), "mark(5, 4)", 100);
        e.is(worn("r0000000000", 6), "mark(5, 4)", 100);
        WheelWeeks wet = worn("r0000000000", 6);
        e.run(wet, "weather()");
        e.is(wet, "mark(5, 4)", 106);
        e.says(13, "a RUSTED one how much less than an IRON one alike");
        e.is(wet, "mark(5, 5)", 0);
        e.is(worn("r0000000000", 0), "mark(5, 5)", 0);
        e.is(worn("r0000000000", 6), "mark(5, 5)", 6);
        e.is("asked() is not told", wet.asked(), 0);
    }

    private void markRefused() {
        e.says(13, "BAD: also KIND 0");
        WheelWeeks none = new WheelWeeks();
        e.refuses(none, Edges.BAD, "mark(0, 1)", "mark(0, 0)", "mark(-1, 1)");
        WheelWeeks x = Due.wheel("r0000000000c93s93e93g93i93u93");
        for (int i = 0; i < 6; i++) {
            e.refuses(x, Edges.BAD, "mark(" + i + ", 0)", "mark(" + i + ", -1)", "mark(" + i + ", 6)");
        }
        e.refuses(x, Edges.BAD, "mark(6, 1)", "mark(-1, 1)", "mark(6, 0)", "mark(MIN, 1)", "mark(MAX, 1)", "mark(1, MIN)",
            "mark(1, MAX)");
        e.says(13, "UNLIKE.");
        String of = "11 22 32 33 44 54 55";
        for (int i = 0; i < 6; i++) {
            for (int kind = 1; kind < 6; kind++) {
                String call = "mark(" + i + ", " + kind + ")";
                if (of.contains("" + i + kind)) {
                    e.is(call + " is not refused", e.call(x, call) >= 0 ? 1 : 0, 1);
                } else {
                    e.finds(x, Edges.UNLIKE, call);
                }
            }
        }
        e.says(13, "What a SPOKE that IS of a KIND tells of now, on the RUT");
        e.run(x, "knock(1)");
        e.is(x, "mark(1, 1)", 3);
    }

    private void bears() {
        e.says(14, "What a SPOKE would BEAR on a RUT of depth d (0 .. 9) with WEAR (0 .. 30) in the WEATHER as it is. BAD.");
        WheelWeeks none = new WheelWeeks();
        e.refuses(none, Edges.BAD, "bears(0, 0, 0)", "bears(-1, 0, 0)");
        WheelWeeks x = Due.wheel("r0000000000u99e91c99");
        e.is(x, "bears(0, 0, 0)", 18);
        e.is(x, "bears(0, 9, 30)", 18);
        e.is(x, "bears(1, 9, 0)", 5);
        e.is(x, "bears(2, 0, 17)", 1);
        e.refuses(x, Edges.BAD, "bears(3, 0, 0)", "bears(-1, 0, 0)", "bears(0, -1, 0)", "bears(0, 10, 0)",
            "bears(0, 0, -1)", "bears(0, 0, 31)", "bears(MIN, 0, 0)", "bears(MAX, 0, 0)", "bears(0, MIN, 0)",
            "bears(0, MAX, 0)", "bears(0, 0, MIN)", "bears(0, 0, MAX)");
        // the depth and the WEAR are those told, not those that are
        e.run(x, "weather() step() step() step() step()");
        e.is(x, "bears(0, 0, 0)", 18);
        e.is(x, "bears(0, 9, 30)", 0);
        e.run(x, "knock(0)");
        e.is(x, "bears(0, 9, 1)", 17);
        e.is("asked() is not told", x.asked(), 0);
    }
}

/** The boundary cases of promises 15 to 22, of a STEP, of OVER, of DEEDS. */
final class DeedsEdges {
    private static final String FLAT = "r0000000000c11c11c11c11";
    private final Edges e;

    DeedsEdges(Edges e) {
        this.e = e;
    }

    void run() {
        limping();
        wearing();
        wearAtMost();
        going();
        next();
        over();
        step();
        soak();
        weather();
        knock();
        mend();
        full();
        undo();
        undoAll();
        keep();
        on();
    }

    private void limping() {
        e.says(Edges.TERMS, "if the SPOKE on which it stands is not there, or less LONG than the RUT is deep, the WHEEL LIMPS;");
        for (int d = 0; d <= 9; d++) {
            for (int length = 1; length <= 9; length++) {
                WheelWeeks x = Due.wheel("r" + d + "000000000i" + length + "9c11c11");
                e.is("step() of a SPOKE " + length + " LONG on a RUT " + d + " deep", x.step(), length < d ? 1 : 0);
                e.is("count(4): it is there", x.count(4), 7);
            }
        }
        // not there: on a RUT of depth 0, too; it stays gone, its WEAR as it was
        WheelWeeks x = Due.wheel("r0000000000c19c19c19");
        e.run(x, "weather() step() step() step() knock(0)");
        e.is(x, "step()", 1);
        e.wears(x, 1, 1, 1);
        e.is(x, "count(4)", 6);
        // too short: no WEAR
        WheelWeeks y = Due.wheel("r2222222200c19c19c29");
        e.run(y, "weather()");
        e.is(y, "step()", 1);
        e.is(y, "step()", 1);
        e.is(y, "step()", 0);
        e.wears(y, 0, 0, 1);
    }

    private void wearing() {
        e.says(Edges.TERMS, "else, if it BEARS as much as the RUT is deep, or more, its WEAR is 1 more, "
            + "in wet WEATHER on RUTS of an odd number alone (30 at most);");
        // BEARS 8 on depths 7, 8, 9
        int[] limps = {0, 0, 1};
        for (int k = 0; k < 3; k++) {
            WheelWeeks x = Due.wheel("r" + (7 + k) + "000000000i94c11c11");
            e.run(x, "weather()");
            e.is(x, "step()", limps[k]);
            e.is(x, "count(4)", limps[k] == 0 ? 7 : 6);
            e.tells(x, "spoke(0, 3)", limps[k] == 0 ? 1 : 0);
        }
        // BEARS 0 on depth 0
        WheelWeeks none = Due.wheel("r0000000000c10c10c10");
        e.run(none, "weather()");
        e.is(none, "step()", 0);
        e.tells(none, "spoke(0, 3)", 1);
        // wet: RUTS 0 to 8 by SPOKES 0, 1, 2; the odd ones are 1, 3, 5, 7
        WheelWeeks wet = Due.wheel("r1111111100i99i99i99");
        e.runTimes(wet, 9, "step()");
        e.wears(wet, 1, 2, 1);
        // RUT 9 is odd, though 9 by 8 leaves 1 over
        e.run(wet, "step() step()");
        e.wears(wet, 2, 2, 1);
        WheelWeeks dry = Due.wheel("r1111111100i99i99i99");
        e.run(dry, "weather()");
        e.runTimes(dry, 9, "step()");
        e.wears(dry, 3, 3, 3);
    }

    /**
     * 13 by DEEDS, 20 more aside: only aside it can be above 30, and there it is told by a GREASED
     * one, which BEARS 4 with WEAR 29, 3 with 30 or 31, 2 with 32.
     */
    private void wearAtMost() {
        e.says(Edges.TERMS, "(30 at most)");
        WheelWeeks x = Due.wheel("r3333333360g99g99g99");
        e.run(x, "weather()");
        e.runTimes(x, 39, "step()");
        e.wears(x, 13, 13, 13);
        e.is(x, "goes(60)", 99, 0);
        e.none(x, "over()");
        // WEAR 30 it has, too: on depth 4 it GOES the 31st time, the first one on RUT 90
        WheelWeeks y = Due.wheel("r4444444460g99g99g99");
        e.run(y, "weather()");
        e.runTimes(y, 39, "step()");
        e.is(y, "goes(51)", 90, 0);
        e.is(y, "goes(52)", 91, 1);
        e.is(y, "over()", 92, 3);
    }

    private void going() {
        e.says(Edges.TERMS, "else it GOES (it is there no more), and the WHEEL LIMPS.");
        WheelWeeks x = Due.wheel("r3300000000c91c92c11c11");
        e.is(x, "step()", 1);
        e.is(x, "count(4)", 14);
        e.is(x, "step()", 0);
        e.is(x, "count(4)", 14);
        // worn: BEARS 2, then 1
        WheelWeeks y = Due.wheel("r2222222200c91c99c99");
        e.run(y, "weather()");
        e.is(y, "step()", 0);
        e.run(y, "step() step()");
        e.is(y, "step()", 1);
        e.is(y, "count(4)", 6);
        e.wears(y, 1, 1, 1);
    }

    private void next() {
        e.says(Edges.TERMS, "In any case the WHEEL then stands on the next SPOKE, on the next RUT.");
        // LIMPS for short, BEARS, GOES, LIMPS for gone
        WheelWeeks x = Due.wheel("r9999999900c11c99c91c99");
        e.run(x, "knock(3)");
        int[] limps = {1, 0, 1};
        for (int k = 0; k < 3; k++) {
            e.is(x, "count(1)", k);
            e.is(x, "count(3)", k);
            e.is(x, "step()", limps[k]);
        }
        e.run(x, "mend(2)");
        e.is(x, "count(1)", 3);
        e.is(x, "count(3)", 3);
        e.is(x, "step()", 1);
        e.is(x, "count(1)", 4);
        e.is(x, "count(3)", 0);
        WheelWeeks eight = Due.wheel("r0000000000c11c11c11c11c11c11c11c11");
        e.runTimes(eight, 7, "step()");
        e.is(eight, "count(3)", 7);
        e.run(eight, "step()");
        e.is(eight, "count(3)", 0);
        e.is(eight, "count(1)", 8);
    }

    private void over() {
        e.says(Edges.TERMS, "It is OVER, if two SPOKES next to one another are gone (then there is no STEP any more).");
        for (int many = 3; many <= 8; many++) {
            for (int i = 0; i < many; i++) {
                for (int j = i + 1; j < many; j++) {
                    WheelWeeks x = Due.wheel("r0000000000" + "c11".repeat(many));
                    e.run(x, "knock(" + i + ")");
                    e.is(x, "count(6)", 0);
                    e.run(x, "knock(" + j + ")");
                    boolean next = j == i + 1 || i == 0 && j == many - 1;
                    e.is(i + " and " + j + " of " + many + " gone, count(6)", x.count(6), next ? 1 : 0);
                    e.is(i + " and " + j + " of " + many + " gone, step()", x.step(),
                        next ? Edges.STATE : i == 0 ? 1 : 0);
                }
            }
        }
        // every second one of eight gone, and still not OVER; without SPOKES neither
        WheelWeeks x = Due.wheel("r0000000000" + "c11".repeat(8));
        e.run(x, "knock(1) knock(3) knock(5) knock(7)");
        e.is(x, "count(6)", 0);
        e.run(x, "knock(0) mend(7)");
        e.is(x, "count(6)", 1);
        e.is(new WheelWeeks(), "count(6)", 0);
    }

    private void step() {
        e.says(15, "1: it LIMPED, 0: not. STATE: no SPOKES, or it is OVER; FULL: 40 DEEDS. (FULL last.)");
        e.refuses(new WheelWeeks(), Edges.STATE, "step()");
        WheelWeeks x = Due.wheel("r9999999900c91c91c99c99");
        e.is(x, "step()", 1);
        e.is(x, "step()", 1);
        e.refuses(x, Edges.STATE, "step()");
        e.run(x, "mend(0)");
        e.is(x, "step()", 0);
        WheelWeeks full = Due.wheel(FLAT);
        for (int k = 0; k < 40; k++) {
            e.is(full, "step()", 0);
        }
        e.refuses(full, Edges.FULL, "step()");
        e.run(full, "undo(38) knock(0) knock(1)");
        e.is(full, "count(2)", 40);
        e.refuses(full, Edges.STATE, "step()");
    }

    private void soak() {
        e.says(16, "STATE: no SPOKES; FULL. (FULL last.)");
        e.refuses(new WheelWeeks(), Edges.STATE, "soak()");
        WheelWeeks full = Due.wheel(FLAT);
        e.runTimes(full, 39, "soak()");
        e.is(full, "soak()", 0);
        e.refuses(full, Edges.FULL, "soak()");
        e.says(Edges.TERMS, "SOAKING (WEAR of all is half, cut)");
        WheelWeeks x = Due.wheel("r0000000000c11c11c11");
        e.run(x, "weather()");
        e.runTimes(x, 5, "step()");
        e.wears(x, 2, 2, 1);
        e.run(x, "knock(1)");
        e.says(16, "SOAKING: how much WEAR all have then.");
        e.is(x, "soak()", 2);
        e.wears(x, 1, 1, 0);
        e.is(x, "soak()", 0);
        e.wears(x, 0, 0, 0);
        e.is(x, "soak()", 0);
        // OVER, it can be soaked still
        e.run(x, "knock(0)");
        e.is(x, "count(6)", 1);
        e.is(x, "soak()", 0);
    }

    private void weather() {
        e.says(17, "1: it is dry then, 0: wet. STATE: no SPOKES; FULL. (FULL last.)");
        e.refuses(new WheelWeeks(), Edges.STATE, "weather()");
        WheelWeeks x = Due.wheel(FLAT);
        e.run(x, "knock(0) knock(1)");
        for (int k = 2; k < 40; k++) {
            e.is(x, "weather()", k % 2 == 0 ? 1 : 0);
        }
        e.refuses(x, Edges.FULL, "weather()");
        e.is(x, "count(5)", 0);
    }

    private void knock() {
        e.says(18, "A SPOKE is knocked out: the WEAR that it had. BAD; STATE: it is gone; FULL. (FULL last.)");
        e.refuses(new WheelWeeks(), Edges.BAD, "knock(0)", "knock(-1)");
        WheelWeeks x = Due.wheel("r9000000000c91c11c11c11");
        e.refuses(x, Edges.BAD, "knock(4)", "knock(-1)", "knock(8)", "knock(MIN)", "knock(MAX)");
        e.run(x, "step()");
        e.refuses(x, Edges.STATE, "knock(0)");
        e.run(x, "weather() step()");
        e.is(x, "knock(1)", 1);
        e.refuses(x, Edges.STATE, "knock(1)");
        // OVER, one more can be knocked out, and the last one too
        e.is(x, "knock(3)", 0);
        e.is(x, "knock(2)", 0);
        e.is(x, "count(4)", 0);
        e.refuses(x, Edges.STATE, "knock(2)");
        e.runTimes(x, 33, "soak()");
        e.run(x, "mend(2)");
        e.is(x, "count(2)", 40);
        e.refuses(x, Edges.FULL, "knock(2)");
        e.refuses(x, Edges.STATE, "knock(1)");
        e.refuses(x, Edges.BAD, "knock(4)", "knock(-1)");
        WheelWeeks eight = Due.wheel("r0000000000c11c11c11c11c11c11c11c11");
        e.is(eight, "knock(7)", 0);
        e.refuses(eight, Edges.BAD, "knock(8)");
    }

    private void mend() {
        e.says(Edges.TERMS, "a SPOKE is knocked out, put in anew (no WEAR, there)");
        WheelWeeks x = Due.wheel(FLAT);
        e.run(x, "weather() step() step() knock(0)");
        e.says(19, "A SPOKE is put in anew: 1: it was gone, 0: there. BAD; FULL. (FULL last.)");
        e.refuses(new WheelWeeks(), Edges.BAD, "mend(0)", "mend(-1)");
        e.refuses(x, Edges.BAD, "mend(4)", "mend(-1)", "mend(8)", "mend(MIN)", "mend(MAX)");
        e.is(x, "mend(0)", 1);
        e.is(x, "mend(0)", 0);
        e.wears(x, 0, 1, 0, 0);
        e.is(x, "mend(1)", 0);
        e.wears(x, 0, 0, 0, 0);
        e.is(x, "mend(3)", 0);
        e.is(x, "count(2)", 8);
        e.runTimes(x, 32, "mend(3)");
        e.refuses(x, Edges.FULL, "mend(0)", "mend(3)");
        e.refuses(x, Edges.BAD, "mend(4)", "mend(-1)");
    }

    private void full() {
        e.says(Edges.TERMS, "These are DEEDS (40 at most).");
        String[] deeds = {"step()", "soak()", "weather()", "knock(0)", "mend(0)", "lots(1, 1)"};
        for (String last : deeds) {
            WheelWeeks x = Due.wheel(FLAT);
            e.runTimes(x, 39, "soak()");
            e.run(x, last);
            e.is(x, "count(2)", 40);
            e.refuses(x, Edges.FULL, "step()", "soak()", "weather()", "mend(0)", "mend(1)", "knock(1)", "lots(1, 1)",
                "lots(20, 1)");
            // what is no DEED is not refused
            e.run(x, "keep(0) goes(60) limps(20, 0) gate() turned() duel(1) undo(40) on(0)");
            e.is(x, "undo(39)", 1);
            e.run(x, last);
            e.is(x, "count(2)", 40);
        }
    }

    private void undo() {
        e.says(20, "DEEDS from number n on are undone: how many. BAD.");
        WheelWeeks none = new WheelWeeks();
        e.is(none, "undo(0)", 0);
        e.refuses(none, Edges.BAD, "undo(1)", "undo(-1)");
        WheelWeeks x = Due.wheel(FLAT);
        e.is(x, "undo(0)", 0);
        e.refuses(x, Edges.BAD, "undo(1)", "undo(-1)", "undo(MIN)", "undo(MAX)");
        e.run(x, "weather() step() knock(2)");
        e.is(x, "undo(3)", 0);
        e.counts(x, 4, 1, 3, 1, 11, 1, 0);
        e.refuses(x, Edges.BAD, "undo(4)", "undo(40)", "undo(-1)");
        e.is(x, "undo(2)", 1);
        e.counts(x, 4, 1, 2, 1, 15, 1, 0);
        e.is(x, "undo(0)", 2);
        e.counts(x, 4, 0, 0, 0, 15, 0, 0);
        // WEAR that was no more there comes again
        e.run(x, "weather() step() step() mend(0) soak()");
        e.wears(x, 0, 0, 0, 0);
        e.is(x, "undo(4)", 1);
        e.wears(x, 0, 1, 0, 0);
        e.is(x, "undo(3)", 1);
        e.wears(x, 1, 1, 0, 0);
    }

    /** From 40 DEEDS back to each number, and it is as it was then. */
    private void undoAll() {
        String road = "r2323232340c99c92s95g99u95";
        WheelWeeks x = Due.wheel(road);
        e.run(x, "lots(20, 5) lots(20, 6)");
        e.run(x, "keep(0)");
        for (int n = 40; n >= 0; n--) {
            e.is(x, "on(0)", 40);
            e.is(x, "undo(" + n + ")", 40 - n);
            WheelWeeks y = Due.wheel(road);
            e.run(y, "keep(0)");
            for (int k = 0; k < n; k++) {
                oneLot(y, k < 20 ? 5 : 6, k % 20);
            }
            for (int what = 0; what <= 7; what++) {
                e.is("count(" + what + ") with " + n + " DEEDS", x.count(what), y.count(what));
            }
            for (int i = 0; i < 5; i++) {
                e.is("WEAR of " + i + " with " + n + " DEEDS", Due.asked(x, x.spoke(i, 3)), Due.asked(y, y.spoke(i, 3)));
            }
        }
    }

    /** The DEED that the LOT of this number (0, 1, ..) of a seed tells. */
    private static void oneLot(WheelWeeks y, int seed, int number) {
        long lot = seed;
        for (int k = 0; k <= number; k++) {
            lot = lot * 48271 % 2147483647;
        }
        if (lot % 6 == 0) {
            y.weather();
        } else if (lot % 6 == 1) {
            y.mend((int) (lot / 8 % y.count(0)));
        } else if (y.count(6) == 1) {
            y.soak();
        } else {
            y.step();
        }
    }

    private void keep() {
        e.says(21, "The WHEEL (as it is, DEEDS) is kept in a place (0 .. 2): how many DEEDS. BAD; STATE: no SPOKES.");
        WheelWeeks none = new WheelWeeks();
        e.refuses(none, Edges.BAD, "keep(-1)", "keep(3)", "keep(MIN)", "keep(MAX)");
        e.refuses(none, Edges.STATE, "keep(0)", "keep(2)");
        e.is(none, "count(10)", 0);
        WheelWeeks x = Due.wheel(FLAT);
        e.refuses(x, Edges.BAD, "keep(-1)", "keep(3)", "keep(MIN)", "keep(MAX)");
        e.is(x, "keep(0)", 0);
        e.is(x, "count(10)", 1);
        e.run(x, "step() knock(3)");
        e.is(x, "keep(2)", 2);
        e.run(x, "knock(2)");
        e.is(x, "keep(1)", 3);
        e.is(x, "count(10)", 3);
        e.is(x, "on(0)", 0);
        e.counts(x, 4, 0, 0, 0, 15, 0, 0);
        e.is(x, "on(2)", 2);
        e.counts(x, 4, 1, 2, 1, 7, 0, 0);
        e.is(x, "on(1)", 3);
        e.counts(x, 4, 1, 3, 1, 3, 0, 1);
        // a place is used again
        e.runTimes(x, 37, "soak()");
        e.is(x, "keep(0)", 40);
        e.is(x, "count(10)", 3);
        e.run(x, "undo(0)");
        e.is(x, "on(0)", 40);
        e.refuses(x, Edges.FULL, "soak()");
    }

    private void on() {
        e.says(22, "The WHEEL is as it was kept: how many DEEDS. BAD; NOTHING.");
        WheelWeeks none = new WheelWeeks();
        e.refuses(none, Edges.BAD, "on(-1)", "on(3)", "on(MIN)", "on(MAX)");
        e.finds(none, Edges.NOTHING, "on(0)", "on(1)", "on(2)");
        WheelWeeks x = Due.wheel(FLAT);
        e.run(x, "weather() step() knock(2) keep(1)");
        e.refuses(x, Edges.BAD, "on(-1)", "on(3)", "on(MIN)", "on(MAX)");
        e.finds(x, Edges.NOTHING, "on(0)", "on(2)");
        e.run(x, "step() step() weather() knock(0) mend(2) undo(1) soak()");
        for (int again = 0; again < 2; again++) {
            e.is(x, "on(1)", 3);
            e.counts(x, 4, 1, 3, 1, 11, 1, 0);
            e.wears(x, 1, 0, 0, 0);
            // its DEEDS are those that were kept
            e.is(x, "undo(2)", 1);
            e.counts(x, 4, 1, 2, 1, 15, 1, 0);
            e.is(x, "undo(1)", 1);
            e.counts(x, 4, 0, 1, 0, 15, 1, 0);
            e.run(x, "step() step() step() knock(1)");
        }
        onTheSameSpoke();
        e.is(x, "wheel(0)", 4);
        e.finds(x, Edges.NOTHING, "on(1)");
    }

    /** Kept DEEDS are those of their own SPOKES, whichever were knocked out since. */
    private void onTheSameSpoke() {
        WheelWeeks y = Due.wheel(FLAT);
        e.run(y, "knock(1) step() keep(0) undo(0) knock(3) knock(0)");
        e.is(y, "on(0)", 2);
        e.is(y, "undo(1)", 1);
        e.counts(y, 4, 0, 1, 0, 13, 0, 0);
    }
}

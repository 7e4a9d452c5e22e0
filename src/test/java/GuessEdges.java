/** The boundary cases of promises 29 to 32: which SPOKE is gone, how STRONG, of which KIND it is. */
final class GuessEdges {
    private static final String FLAT = "r0000000000c11c11c11c11";
    private final Edges e;

    GuessEdges(Edges e) {
        this.e = e;
    }

    void run() {
        rows();
        gone();
        goneWorn();
        goneRefused();
        strengths();
        kinds();
        look();
        lookParts();
    }

    private void rows() {
        e.says(Edges.TERMS, "(a ROW of 1 to 20 numbers 0, 1: whether it LIMPED in STEPS 1, 2, .. from now on).");
        // SPOKES too short, so that it always LIMPS; from RUT 3 on every 8th STEP
        WheelWeeks x = Due.wheel("r0009000000" + "c11".repeat(8));
        e.run(x, "step() step() step() limps(1, 0)");
        e.holds(x, 0, 1);
        e.is(x, "gone(0)", 47, 0);
        e.is(x, "strengths(3, 0)", 1023);
        e.is(x, "kinds(3, 0)", 63);
        e.run(x, "limps(20, 5)");
        e.holds(x, 5, 1, 0, 0, 0, 0, 0, 0, 0, 1, 0, 0, 0, 0, 0, 0, 0, 1, 0, 0, 0);
        e.is(x, "strengths(3, 5)", 1023);
        e.is(x, "kinds(3, 5)", 63);
        // the last of 20 tells, too: with it none can be so
        e.run(x, "lay(5, 19, 1)");
        e.is(x, "strengths(3, 5)", 0);
        e.is(x, "kinds(3, 5)", 0);
    }

    private void gone() {
        e.says(29, "Sets of SPOKES that can be gone, WEAR as it is, so that it LIMPS so (behind OVER it does not): "
            + "how many (of 2 to the power of how many SPOKES); the least number by asked().");
        // all too short: it LIMPS, unless it is OVER, which 4, 7, .. 47 sets don't make it
        int[] notOver = {4, 7, 11, 18, 29, 47};
        for (int many = 3; many <= 8; many++) {
            WheelWeeks x = Due.wheel("r9999999900" + "c11".repeat(many));
            Due.row(x, 0, 1);
            e.is(x, "gone(0)", notOver[many - 3], 0);
            Due.row(x, 0, 0);
            e.is(x, "gone(0)", (1 << many) - notOver[many - 3], 3);
            x.row(0, 20);
            e.is(x, "gone(0)", (1 << many) - notOver[many - 3], 3);
            Due.row(x, 0, 1, 1, 1, 1, 1, 1, 1, 1, 1, 1, 1, 1, 1, 1, 1, 1, 1, 1, 1, 1);
            e.is(x, "gone(0)", notOver[many - 3], 0);
            e.says(29, "NONE: none.");
            x.lay(0, 19, 0);
            e.none(x, "gone(0)");
        }
        // those that are gone now may be there: OVER tells nothing
        WheelWeeks flat = Due.wheel(FLAT);
        e.run(flat, "knock(0) knock(1) row(0, 4)");
        e.is(flat, "gone(0)", 10, 0);
        e.run(flat, "lay(0, 3, 1)");
        e.is(flat, "gone(0)", 1, 8);
        e.run(flat, "lay(0, 1, 1)");
        e.is(flat, "gone(0)", 1, 10);
        e.run(flat, "lay(0, 0, 1)");
        e.none(flat, "gone(0)");
    }

    private void goneWorn() {
        e.says(29, "WEAR as it is");
        // SPOKE 0 BEARS 1 of 2 now: it LIMPS, gone or not, unless it is OVER
        WheelWeeks x = Due.wheel("r2222222200c91c99c99");
        e.run(x, "weather() step() step() step()");
        Due.row(x, 0, 1);
        e.is(x, "gone(0)", 4, 0);
        e.run(x, "mend(0)");
        e.is(x, "gone(0)", 1, 1);
        // behind the STEP by which it is OVER: {1}, {2} make it so
        Due.row(x, 0, 0);
        e.is(x, "gone(0)", 7, 0);
        e.run(x, "undo(4)");
        Due.row(x, 0, 1, 0, 0);
        e.is(x, "gone(0)", 4, 0);
    }

    private void goneRefused() {
        e.says(29, "BAD; STATE: no SPOKES; NOTHING; SIZE: none, more than 20; UNLIKE: not 0, 1. (In this order.)");
        WheelWeeks none = new WheelWeeks();
        e.refuses(none, Edges.BAD, "gone(-1)", "gone(6)", "gone(MIN)", "gone(MAX)");
        e.refuses(none, Edges.STATE, "gone(0)", "gone(5)");
        none.row(0, 0);
        e.refuses(none, Edges.STATE, "gone(0)");
        WheelWeeks x = Due.wheel(FLAT);
        e.refuses(x, Edges.BAD, "gone(-1)", "gone(6)", "gone(MIN)", "gone(MAX)");
        refusesRows(x, "gone(%d)");
    }

    /** NOTHING; SIZE; UNLIKE: in this order. */
    private void refusesRows(WheelWeeks x, String call) {
        for (int r = 0; r <= 5; r += 5) {
            String told = String.format(call, r);
            x.tear(r);
            e.finds(x, Edges.NOTHING, told);
            x.row(r, 0);
            e.finds(x, Edges.SIZE, told);
            for (int size : new int[] {21, 40}) {
                x.row(r, size);
                e.finds(x, Edges.SIZE, told);
                x.lay(r, 0, 2);
                e.finds(x, Edges.SIZE, told);
            }
            for (int size : new int[] {1, 20}) {
                for (int v : new int[] {2, -1, 256, 257, Integer.MIN_VALUE, Integer.MAX_VALUE}) {
                    x.row(r, size);
                    x.lay(r, 0, v);
                    e.finds(x, Edges.UNLIKE, told);
                    x.lay(r, 0, 0);
                    x.lay(r, size - 1, v);
                    e.finds(x, Edges.UNLIKE, told);
                }
                x.row(r, size);
                e.run(x, told);
            }
            // what a longer row of this ROW held is no more there
            Due.row(x, r, 0, 7);
            x.row(r, 1);
            e.run(x, told);
        }
    }

    private void strengths() {
        e.says(30, "How STRONG (bits 0 .. 9) a SPOKE can be by these, all else as it is.");
        // a SAWN one BEARS 9 of 9, if it is 9 STRONG
        WheelWeeks x = Due.wheel("r9100000000s90c95c95");
        Due.row(x, 0, 0);
        e.is(x, "strengths(0, 0)", 512);
        e.is(x, "strengths(2, 0)", 0);
        Due.row(x, 0, 1);
        e.is(x, "strengths(0, 0)", 511);
        e.is(x, "strengths(2, 0)", 1023);
        Due.row(x, 0, 1, 1);
        e.is(x, "strengths(1, 0)", 1);
        Due.row(x, 0, 1, 0);
        e.is(x, "strengths(1, 0)", 1022);
        // SPOKE 1 gone: SPOKE 0 GOES, and behind OVER it does not LIMP, however STRONG SPOKE 1 was
        e.run(x, "knock(1)");
        e.is(x, "strengths(1, 0)", 1023);
        Due.row(x, 0, 1, 0, 0);
        e.is(x, "strengths(0, 0)", 511);
        e.is("asked() is not told", x.asked(), 0);
        e.says(30, "BAD; NOTHING; SIZE; UNLIKE. (In this order.)");
        refusesSpokes("strengths");
    }

    private void kinds() {
        e.says(31, "KINDS (bits) that it can be of by these.");
        WheelWeeks x = Due.wheel("r5400000000c92c92c99");
        Due.row(x, 0, 0, 0);
        e.is(x, "kinds(0, 0)", 12);
        Due.row(x, 0, 1, 0);
        e.is(x, "kinds(0, 0)", 51);
        e.is(x, "kinds(1, 0)", 61);
        Due.row(x, 0, 1, 1);
        e.is(x, "kinds(1, 0)", 2);
        e.is(x, "kinds(2, 0)", 0);
        Due.row(x, 0, 1);
        e.is(x, "kinds(2, 0)", 63);
        e.is("asked() is not told", x.asked(), 0);
        e.says(31, "BAD; NOTHING; SIZE; UNLIKE. (In this order.)");
        refusesSpokes("kinds");
    }

    private void refusesSpokes(String name) {
        WheelWeeks none = new WheelWeeks();
        e.refuses(none, Edges.BAD, name + "(0, 0)", name + "(-1, 0)", name + "(0, 6)");
        WheelWeeks x = Due.wheel(FLAT);
        e.refuses(x, Edges.BAD, name + "(4, 0)", name + "(-1, 0)", name + "(0, 6)", name + "(0, -1)", name + "(8, 0)",
            name + "(MIN, 0)", name + "(MAX, 0)", name + "(0, MIN)", name + "(0, MAX)", name + "(4, 6)");
        refusesRows(x, name + "(0, %d)");
        refusesRows(x, name + "(3, %d)");
    }

    private void look() {
        e.says(32, "that part by asked(). BAD.");
        WheelWeeks none = new WheelWeeks();
        e.refuses(none, Edges.BAD, "look(0)", "look(-1)");
        WheelWeeks x = Due.wheel("r0000000000c10c19c14");
        e.refuses(x, Edges.BAD, "look(3)", "look(-1)", "look(MIN)", "look(MAX)");
        e.says(32, "The depth (0 .. 9) of a RUT to look at");
        // 0 STRONG: depth 0 all BEAR, the other ones none; 9 STRONG: all BEAR all
        e.is(x, "look(0)", 0, 6);
        e.is(x, "look(1)", 0, 6);
        // 4 STRONG: from 5 on all but SAWN, on 9 ELM and GREASED alone
        e.is(x, "look(2)", 9, 4);
        WheelWeeks eight = Due.wheel("r0000000000c10c10c10c10c10c10c10c14");
        e.is(eight, "look(7)", 9, 4);
        e.refuses(eight, Edges.BAD, "look(8)");
    }

    private void lookParts() {
        e.says(32, "the greater part is least (the first)");
        // 1 STRONG: CLEFT 2, SAWN 1, ELM and GREASED 5 on 5: 1 by 5 on depth 2, 2 by 4 on depth 5
        WheelWeeks x = Due.wheel("r0000000000c11s16u12");
        e.is(x, "look(0)", 5, 4);
        // 6 STRONG: SAWN 6, the other ones 12 or more: depth 7 is the first one on which it alone won't
        e.is(x, "look(1)", 7, 5);
        // 2 STRONG: SAWN 2, the other ones 4, ELM and GREASED 7 from 5 on
        e.is(x, "look(2)", 5, 4);
        e.says(32, "by whether it BEARS it (WEAR, WEATHER as they are)");
        // WEAR 1 for SPOKE 0: CLEFT 1, SAWN 0, ELM 1 (4 on 5), GREASED 2 (5 on 5), IRON 2, RUSTED 1
        e.run(x, "weather() step()");
        e.is(x, "look(0)", 2, 4);
        // wet, RUSTED 2: three by three
        e.run(x, "weather()");
        e.is(x, "look(0)", 2, 3);
        e.run(x, "knock(0)");
        e.is(x, "look(0)", 2, 3);
    }
}

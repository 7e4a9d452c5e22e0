/** The boundary cases of promises 23 to 28: how far it goes, what to do. */
final class AsideEdges {
    private static final String FLAT = "r0000000000c11c11c11c11";
    /** SPOKES 0 and 1 GO at once: OVER on RUT 2. */
    private static final String FRAIL = "r9999999900c91c91c99c99";
    private static final String EIGHT = "c11c11c11c11c11c11c11c11";
    private final Edges e;

    AsideEdges(Edges e) {
        this.e = e;
    }

    void run() {
        nothingElseDone();
        goes();
        over();
        limps();
        gate();
        gateFar();
        gateFewest();
        turned();
        change();
        changeFirst();
    }

    private void nothingElseDone() {
        e.says(Edges.TERMS, "---- 3 how far it goes (aside: nothing else done).");
        for (String text : new String[] {FLAT, FRAIL}) {
            WheelWeeks x = Due.wheel(text);
            e.run(x, "weather() step() knock(2) keep(1) limps(20, 3)");
            for (String call : new String[] {"goes(60)", "over()", "limps(20, 3)", "gate()", "turned()", "change()",
                "gone(3)", "strengths(1, 3)", "kinds(1, 3)", "look(1)", "duel(4)", "odds(3, 5)", "mid(7)"}) {
                long digest = x.digest();
                e.run(x, call);
                e.is(call + ", digest()", x.digest(), digest);
            }
            e.is(x, "undo(0)", 3);
            e.is(x, "on(1)", 3);
        }
    }

    private void goes() {
        e.says(23, "On which RUT it is behind n (0 .. 60) STEPS (fewer, if it is OVER ahead); "
            + "how often it LIMPED in these by asked().");
        WheelWeeks flat = Due.wheel(FLAT);
        e.is(flat, "goes(0)", 0, 0);
        e.is(flat, "goes(1)", 1, 0);
        e.is(flat, "goes(60)", 60, 0);
        e.run(flat, "knock(3)");
        e.is(flat, "goes(3)", 3, 0);
        e.is(flat, "goes(4)", 4, 1);
        e.is(flat, "goes(60)", 60, 15);
        e.run(flat, "undo(0)");
        e.runTimes(flat, 40, "step()");
        e.is(flat, "goes(0)", 40, 0);
        e.is(flat, "goes(60)", 100, 0);
        WheelWeeks frail = Due.wheel(FRAIL);
        e.is(frail, "goes(1)", 1, 1);
        e.is(frail, "goes(2)", 2, 2);
        e.is(frail, "goes(3)", 2, 2);
        e.is(frail, "goes(60)", 2, 2);
        e.run(frail, "step() step()");
        e.is(frail, "goes(0)", 2, 0);
        e.is(frail, "goes(60)", 2, 0);
        e.says(23, "BAD; STATE: no SPOKES.");
        e.refuses(frail, Edges.BAD, "goes(-1)", "goes(61)", "goes(MIN)", "goes(MAX)");
        WheelWeeks none = new WheelWeeks();
        e.refuses(none, Edges.BAD, "goes(-1)", "goes(61)");
        e.refuses(none, Edges.STATE, "goes(0)", "goes(60)");
    }

    private void over() {
        e.says(24, "On which RUT it is OVER (60 STEPS at most); which SPOKES are gone then (bits) by asked().");
        e.is(Due.wheel(FRAIL), "over()", 2, 3);
        WheelWeeks already = Due.wheel(FLAT);
        e.run(already, "step() knock(0) knock(3)");
        e.is(already, "over()", 1, 9);
        e.run(already, "knock(1) knock(2)");
        e.is(already, "over()", 1, 15);
        // dry, a CLEFT one, 7 STRONG, GOES the 15th time: on RUTS 58 and 59
        WheelWeeks sixty = Due.wheel("r1111111100i99i99c97c97");
        e.run(sixty, "weather()");
        e.is(sixty, "over()", 60, 12);
        e.says(24, "NONE: not by then.");
        // a SAWN one, 8 STRONG, GOES the 16th time: on RUT 60
        WheelWeeks later = Due.wheel("r1111111100s98i99i99c97");
        e.run(later, "weather() spoke(0, 1)");
        e.none(later, "over()");
        e.run(later, "step()");
        e.is(later, "over()", 61, 9);
        e.none(Due.wheel(FLAT), "over()");
        e.says(24, "STATE: no SPOKES.");
        e.refuses(new WheelWeeks(), Edges.STATE, "over()");
    }

    private void limps() {
        e.says(25, "The row of n (1 .. 20) STEPS, 1: it LIMPS in it, 0: not (behind OVER: 0), comes to a ROW (anew): "
            + "how often it LIMPS.");
        WheelWeeks frail = Due.wheel(FRAIL);
        e.is(frail, "limps(1, 0)", 1);
        e.holds(frail, 0, 1);
        e.is(frail, "limps(2, 5)", 2);
        e.holds(frail, 5, 1, 1);
        e.is(frail, "limps(20, 5)", 2);
        e.holds(frail, 5, 1, 1, 0, 0, 0, 0, 0, 0, 0, 0, 0, 0, 0, 0, 0, 0, 0, 0, 0, 0);
        // a longer ROW that was there, a torn one, an empty one
        e.run(frail, "row(4, 40) lay(4, 0, 9) lay(4, 39, 9)");
        e.is(frail, "limps(3, 4)", 2);
        e.holds(frail, 4, 1, 1, 0);
        e.run(frail, "tear(4)");
        e.is(frail, "limps(1, 4)", 1);
        e.holds(frail, 4, 1);
        e.run(frail, "row(4, 0)");
        e.is(frail, "limps(2, 4)", 2);
        e.is(frail, "count(8)", 3);
        e.run(frail, "step() step()");
        e.is(frail, "limps(2, 4)", 0);
        e.holds(frail, 4, 0, 0);
        // RUTS 3, 11, 19 LIMP: the 20th STEP is within
        WheelWeeks eight = Due.wheel("r0009000000" + EIGHT);
        e.is(eight, "limps(19, 0)", 2);
        e.is(eight, "limps(20, 0)", 3);
        e.tells(eight, "at(0, 19)", 1);
        e.tells(eight, "at(0, 18)", 0);
        e.says(25, "BAD; STATE: no SPOKES.");
        WheelWeeks none = new WheelWeeks();
        for (WheelWeeks x : new WheelWeeks[] {none, frail}) {
            e.refuses(x, Edges.BAD, "limps(0, 0)", "limps(21, 0)", "limps(-1, 0)", "limps(1, -1)", "limps(1, 6)");
            e.refuses(x, Edges.BAD, "limps(MIN, 0)", "limps(MAX, 0)", "limps(1, MIN)", "limps(1, MAX)");
        }
        e.run(none, "row(0, 2) lay(0, 1, 4)");
        e.refuses(none, Edges.STATE, "limps(1, 0)", "limps(20, 5)");
        e.holds(none, 0, 0, 4);
    }

    private void gate() {
        e.says(26, "by which it comes to the RUT of the GATE (or is there, or beyond)");
        // all gone, but the GATE is where it stands
        WheelWeeks here = Due.wheel("r0000000000c11c11c11");
        e.run(here, "knock(0) knock(1) knock(2)");
        e.is(here, "gate()", 0, 0);
        WheelWeeks ahead = Due.wheel("r0000000001c11c11c11");
        e.is(ahead, "gate()", 0, 0);
        e.run(ahead, "knock(0) knock(1) knock(2)");
        e.is(ahead, "gate()", 2, 3);
        e.run(ahead, "undo(0) step() knock(0) knock(1) knock(2)");
        e.is(ahead, "gate()", 0, 0);
        e.run(ahead, "undo(1) step() knock(0) knock(1) knock(2)");
        e.is(ahead, "gate()", 0, 0);
        // OVER on RUT 2, so it comes to RUT 2, but not to RUT 3
        e.is(Due.wheel("r9999999902c91c91c99c99"), "gate()", 0, 0);
        e.says(26, "NONE: by none.");
        e.none(Due.wheel("r9999999903c91c91c99c99"), "gate()");
        e.none(Due.wheel("r9999999960c91c91c99c99"), "gate()");
        e.says(26, "STATE: no SPOKES.");
        e.refuses(new WheelWeeks(), Edges.STATE, "gate()");
    }

    private void gateFar() {
        e.says(26, "by which it comes to the RUT of the GATE");
        // dry, OVER on RUT 60: SPOKES 2 and 3 GO the 15th time
        WheelWeeks sixty = Due.wheel("r1111111160i99i99c97c97");
        e.run(sixty, "weather()");
        e.is(sixty, "gate()", 0, 0);
        // dry, OVER on RUT 59
        WheelWeeks less = Due.wheel("r1111111160i99c97c97i99");
        e.run(less, "weather()");
        e.none(less, "gate()");
        WheelWeeks just = Due.wheel("r1111111159i99c97c97i99");
        e.run(just, "weather()");
        e.is(just, "gate()", 0, 0);
    }

    private void gateFewest() {
        e.says(26, "The fewest SPOKES to put in anew now");
        // one that is there, but worn
        WheelWeeks worn = Due.wheel("r1111111160i99c97c97i99");
        e.run(worn, "weather()");
        e.runTimes(worn, 8, "step()");
        e.is(worn, "gate()", 1, 2);
        e.says(26, "which (bits; of like few the least number) by asked().");
        WheelWeeks four = Due.wheel("r0000000010c11c11c11c11");
        e.run(four, "knock(1) knock(2)");
        e.is(four, "gate()", 1, 2);
        e.run(four, "knock(3)");
        e.is(four, "gate()", 1, 4);
        e.run(four, "knock(0)");
        e.is(four, "gate()", 2, 5);
        WheelWeeks eight = Due.wheel("r0000000060" + EIGHT);
        for (int i = 0; i < 8; i++) {
            e.run(eight, "knock(" + i + ")");
        }
        e.is(eight, "gate()", 4, 85);
    }

    private void turned() {
        e.says(27, "The SPOKE on which to stand now, on the RUT on which it is, so that it LIMPS least in 20 STEPS");
        // RUTS 3, 11, 19 of 20; RUTS 4, 12
        e.is(Due.wheel("r0009000000" + EIGHT), "turned()", 0, 3);
        e.is(Due.wheel("r0000900000" + EIGHT), "turned()", 0, 2);
        WheelWeeks last = Due.wheel("r9000000000c11c11c11c11c11c11c11c99");
        e.is(last, "turned()", 7, 0);
        e.run(last, "step()");
        e.is(last, "turned()", 0, 0);
        e.run(last, "step()");
        e.is(last, "turned()", 1, 0);
        e.says(27, "(a STEP that is none for OVER counts as LIMPING, too; of like ones the first)");
        e.is(Due.wheel(FLAT), "turned()", 0, 0);
        // OVER behind 2, 4, 4, 3 STEPS, two of which LIMP
        e.is(Due.wheel(FRAIL), "turned()", 1, 18);
        // on RUTS 0 and 8 one GOES, wherever it stands (on no SPOKE at all it would LIMP less): OVER on RUT 9
        e.is(Due.wheel("r9000000000c91c91c91"), "turned()", 0, 15);
        WheelWeeks over = Due.wheel(FLAT);
        e.run(over, "step() knock(0) knock(3)");
        e.is(over, "turned()", 0, 20);
        e.says(27, "STATE: no SPOKES.");
        e.refuses(new WheelWeeks(), Edges.STATE, "turned()");
    }

    private void change() {
        e.says(28, "Two SPOKES to change round (as they are, with WEAR, gone or there) so that it LIMPS least so");
        WheelWeeks gone = Due.wheel(FLAT);
        e.run(gone, "knock(0) knock(1)");
        e.is(gone, "change()", 3, 10);
        // of eight, a gone one of 0 to 3 LIMPS three times in 20 STEPS, one of 4 to 7 twice
        WheelWeeks one = Due.wheel("r0000000000" + EIGHT);
        e.run(one, "knock(1)");
        e.is(one, "change()", 14, 2);
        e.run(one, "mend(1) knock(3)");
        e.is(one, "change()", 34, 2);
        // 4 STEPS of wear each, SPOKE 3 is anew: it BEARS on RUTS of depth 1 longer
        WheelWeeks worn = Due.wheel("r1000100000c92c91c91c92");
        e.run(worn, "weather()");
        e.runTimes(worn, 16, "step()");
        e.run(worn, "mend(3)");
        e.is(worn, "change()", 3, 1);
        // LIMPS on RUTS 2, 10, 18 and 3, 11, 19; where SPOKE 0 comes, no more
        e.is(Due.wheel("r0099000000c99" + EIGHT.substring(3)), "change()", 2, 3);
        // on RUTS 3, 11, 19 and 4, 12
        e.is(Due.wheel("r0009900000c99" + EIGHT.substring(3)), "change()", 3, 2);
        e.says(28, "NONE: no two make it LIMP less.");
        e.none(Due.wheel(FLAT), "change()");
        e.none(Due.wheel("r9191919100c99i11c99i11"), "change()");
        WheelWeeks over = Due.wheel(FLAT);
        e.run(over, "knock(0) knock(1) knock(2) spoke(0, 1)");
        e.none(over, "change()");
        e.says(28, "STATE: no SPOKES.");
        e.refuses(new WheelWeeks(), Edges.STATE, "change()");
    }

    private void changeFirst() {
        e.says(28, "(10 times the lesser number and the other one; the first)");
        e.is(Due.wheel("r9191919100i11c99i11c99"), "change()", 1, 5);
        e.is(Due.wheel("r0000000900c11c11c11c11c11c11c99c11"), "change()", 67, 0);
        e.is(Due.wheel("r9000000000c11c99c11c11c11c11c11c11"), "change()", 1, 0);
        e.is(Due.wheel("r9000000000c11c11c11c11c11c11c11c99"), "change()", 7, 0);
        e.is(Due.wheel("r0900000000c11c11c99c99c11c11c11c11"), "change()", 12, 0);
    }
}

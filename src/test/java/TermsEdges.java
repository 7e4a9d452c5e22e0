/** The boundary cases of the part 'Terms' that are of no one promise. */
final class TermsEdges {
    private static final String FLAT = "r0000000000c11c11c11c11";
    private final Edges e;

    TermsEdges(Edges e) {
        this.e = e;
    }

    void run() {
        order();
        changesNothing();
        findings();
        bits();
        missing();
        withoutSpokes();
    }

    private void order() {
        e.says(Edges.TERMS, "Refused is, the first of these that fits, in this order: BAD -1 (a number that is none, or not as told), "
            + "FULL -2, STATE -4 (not now), SPENT -6 (more than told), FINDING -3 (finding() tells which), "
            + "unless a call says so otherwise. NONE -9.");
        e.is("BAD", WheelWeeks.BAD, -1);
        e.is("FULL", WheelWeeks.FULL, -2);
        e.is("FINDING", WheelWeeks.FINDING, -3);
        e.is("STATE", WheelWeeks.STATE, -4);
        e.is("SPENT", WheelWeeks.SPENT, -6);
        e.is("NONE", WheelWeeks.NONE, -9);
        // BAD ahead of STATE: no SPOKES
        WheelWeeks none = new WheelWeeks();
        e.refuses(none, Edges.BAD, "keep(3)", "goes(61)", "limps(0, 0)", "limps(1, 6)", "gone(6)", "duel(5)", "odds(21, 0)",
            "odds(0, 13)", "mid(13)", "lots(0, 1)", "lots(1, 0)");
        // STATE ahead of a FINDING: no SPOKES, no ROW
        e.refuses(none, Edges.STATE, "gone(0)", "keep(0)", "goes(60)", "limps(1, 0)", "duel(4)", "odds(20, 12)", "mid(12)",
            "lots(1, 1)");
        // BAD ahead of FINDINGS
        e.refuses(none, Edges.BAD, "lay(6, -1, 0)", "at(6, -1)", "tear(6)", "copy(6, -1, 0, -1, -1)", "mean(6)",
            "row(6, -1)", "text(4, -1)", "put(4, -1, 0)", "fault(4)", "wheel(4)", "on(3)");
        // BAD ahead of STATE ahead of FULL
        WheelWeeks full = Due.wheel(FLAT);
        e.runTimes(full, 38, "soak()");
        e.run(full, "knock(0) knock(1)");
        e.refuses(full, Edges.BAD, "knock(4)", "mend(4)", "lots(21, 1)", "undo(41)");
        e.refuses(full, Edges.STATE, "step()", "knock(0)", "knock(1)");
        e.refuses(full, Edges.FULL, "soak()", "weather()", "knock(2)", "mend(0)", "lots(1, 1)");
    }

    private void changesNothing() {
        e.says(Edges.TERMS, "What is refused changes nothing but finding(), findings().");
        // what digest() does not tell: the kept WHEELS' SPOKES, the DEEDS that can be undone
        WheelWeeks x = Due.wheel(FLAT);
        e.run(x, "weather() step() knock(2) keep(0) mend(2) knock(1) goes(3) mid(6)");
        int asked = x.asked();
        e.refuses(x, Edges.BAD, "keep(3)", "on(3)", "undo(6)", "undo(-1)", "knock(4)", "mend(4)", "lots(0, 1)", "wheel(4)");
        e.refuses(x, Edges.STATE, "knock(1)");
        e.finds(x, Edges.NOTHING, "on(1)", "wheel(3)");
        x.text(3, 60);
        e.refuses(x, Edges.STATE, "wheel(3)");
        e.is("asked()", x.asked(), asked);
        e.is(x, "undo(4)", 1);
        e.is(x, "count(4)", 15);
        e.is(x, "undo(3)", 1);
        e.is(x, "count(4)", 11);
        e.is(x, "undo(2)", 1);
        e.is(x, "count(4)", 15);
        e.is(x, "on(0)", 3);
        e.counts(x, 4, 1, 3, 1, 11, 1, 0);
    }

    private void findings() {
        e.says(Edges.TERMS, "FINDINGS: 1 NOTHING (a ROW, a TEXT, a kept WHEEL that is missing), 2 BEYOND (a place that there is not), "
            + "3 UNLIKE (a SPOKE of another KIND; a number that is none), 4 NOUGHT (shared among none), "
            + "5 SIZE (fewer than none; not as many as due).");
        WheelWeeks x = Due.wheel(FLAT);
        e.finds(x, 1, "at(0, 0)", "fault(1)", "on(0)");
        e.run(x, "row(0, 0)");
        e.finds(x, 2, "at(0, 0)", "put(0, 60, 0)");
        e.finds(x, 3, "mark(0, 1)");
        Due.row(x, 1, 2);
        e.finds(x, 3, "gone(1)", "strengths(0, 1)", "kinds(0, 1)");
        e.finds(x, 4, "mean(0)");
        e.finds(x, 5, "row(0, -1)", "text(0, -1)", "copy(0, 0, 0, 0, -1)", "gone(0)", "strengths(0, 0)", "kinds(0, 0)");
    }

    private void bits() {
        e.says(Edges.TERMS, "Sets (of SPOKES, KINDS, numbers 0 .. 9) are told by bits.");
        WheelWeeks x = Due.wheel("r0000000001" + "c11".repeat(8));
        e.is(x, "count(4)", 255);
        e.run(x, "knock(0)");
        e.is(x, "count(4)", 254);
        e.run(x, "knock(7)");
        e.is(x, "count(4)", 126);
        e.is(x, "over()", 0, 129);
        e.is(x, "gate()", 1, 1);
        Due.row(x, 0, 0);
        e.run(x, "mend(0) mend(7)");
        e.is(x, "strengths(7, 0)", 1023);
        e.is(x, "kinds(7, 0)", 63);
        Due.row(x, 0, 0, 0, 0, 0, 0, 0, 0, 1);
        e.is(x, "gone(0)", 1, 128);
    }

    private void missing() {
        e.says(Edges.TERMS, "or missing (at first).");
        WheelWeeks x = new WheelWeeks();
        for (int r = 0; r <= 5; r++) {
            e.finds(x, Edges.NOTHING, "at(" + r + ", 0)", "lay(" + r + ", 0, 0)", "tear(" + r + ")", "mean(" + r + ")");
        }
        for (int t = 0; t <= 3; t++) {
            e.finds(x, Edges.NOTHING, "put(" + t + ", 0, 0)", "fault(" + t + ")", "wheel(" + t + ")");
        }
        e.is(x, "count(8)", 0);
        e.is(x, "count(9)", 0);
    }

    private void withoutSpokes() {
        e.says(Edges.TERMS, "A WHEEL (without SPOKES at first) is a TEXT");
        WheelWeeks x = new WheelWeeks();
        Due.write(x, 0, FLAT);
        // a TEXT is there, but no WHEEL by it yet
        e.is(x, "count(0)", 0);
        e.refuses(x, Edges.STATE, "step()", "soak()", "weather()", "keep(0)", "over()", "gate()", "turned()", "change()");
        e.is(x, "wheel(0)", 4);
        e.is(x, "step()", 0);
        // and the WHEEL stays without its TEXT
        e.run(x, "text(0, 0)");
        e.is(x, "step()", 0);
        e.is(x, "count(1)", 2);
    }
}

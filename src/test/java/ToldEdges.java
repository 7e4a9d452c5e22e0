import java.util.ArrayList;
import java.util.List;

/** The boundary cases of promises 1, 37 and 40 to 43: what is told. */
final class ToldEdges {
    private static final String FLAT = "r0000000000c11c11c11c11";
    private final Edges e;

    ToldEdges(Edges e) {
        this.e = e;
    }

    void run() {
        newObject();
        asked();
        askedStays();
        count();
        countMost();
        finding();
        findings();
        digestOfNone();
        digestOfAll();
        lastCall();
    }

    private void newObject() {
        e.says(1, "No ROWS, TEXTS, SPOKES.");
        WheelWeeks x = new WheelWeeks();
        e.counts(x, 0, 0, 0, 0, 0, 0, 0, 0, 0, 0, 0, 0, 0);
        for (int k = 0; k < 6; k++) {
            e.finds(x, Edges.NOTHING, "at(" + k + ", 0)", "tear(" + k + ")");
        }
        for (int t = 0; t < 4; t++) {
            e.finds(x, Edges.NOTHING, "put(" + t + ", 0, 1)", "fault(" + t + ")", "wheel(" + t + ")");
        }
        e.refuses(x, Edges.BAD, "spoke(0, 0)", "mark(0, 1)", "bears(0, 0, 0)", "knock(0)", "mend(0)", "look(0)");
        e.refuses(x, Edges.STATE, "step()", "soak()", "weather()", "goes(0)", "over()", "gate()", "turned()", "change()");
        // objects have nothing of one another
        WheelWeeks y = Due.wheel(FLAT);
        e.run(y, "row(0, 0) goes(3) keep(0) odds(3, 6)");
        e.finds(y, Edges.NOUGHT, "mean(0)");
        WheelWeeks z = new WheelWeeks();
        e.counts(z, 0, 0, 0, 0, 0, 0, 0, 0, 0, 0, 0, 0, 0);
        e.is("finding()", z.finding(), 0);
        e.is("asked()", z.asked(), 0);
        e.is("upper()", z.upper(), 0);
    }

    private void asked() {
        e.says(37, "What the latest lay(), at(), mean(), spoke(), goes(), over(), gate(), turned(), change(), gone(), "
            + "look() that was not refused (nor answered NONE) told; 0 before.");
        WheelWeeks x = new WheelWeeks();
        e.is(x, "asked()", 0);
        e.refuses(x, Edges.STATE, "goes(1)", "gate()");
        e.finds(x, Edges.NOTHING, "at(0, 0)");
        e.is(x, "asked()", 0);
        Due.row(x, 0, 77, Integer.MIN_VALUE);
        e.tells(x, "at(0, 1)", Integer.MIN_VALUE);
        e.tells(x, "lay(0, 1, 5)", Integer.MIN_VALUE);
        e.tells(x, "mean(0)", 41);
        Due.write(x, 0, "r9191919100i11c99i11c99");
        e.run(x, "wheel(0)");
        e.is(x, "asked()", 41);
        e.tells(x, "spoke(1, 2)", 9);
        e.is(x, "goes(3)", 3, 2);
        e.is(x, "gate()", 0, 0);
        e.is(x, "change()", 1, 5);
        e.is(x, "turned()", 1, 0);
        e.is(x, "look(1)", 0, 6);
        e.run(x, "knock(1) limps(4, 2)");
        e.is(x, "asked()", 6);
        e.is(x, "gone(2)", 1, 2);
        e.run(x, "knock(2)");
        e.is(x, "over()", 0, 6);
    }

    private void askedStays() {
        e.says(37, "that was not refused (nor answered NONE)");
        WheelWeeks x = Due.wheel("r0000000040c11c11c11c11");
        Due.row(x, 0, 77);
        Due.row(x, 1, 0, 1, 1);
        e.run(x, "at(0, 0)");
        e.none(x, "over()");
        e.none(x, "change()");
        e.none(x, "gone(1)");
        e.finds(x, Edges.UNLIKE, "gone(0)");
        e.finds(x, Edges.BEYOND, "lay(0, 1, 5)", "at(0, -1)");
        e.refuses(x, Edges.BAD, "mean(6)", "spoke(4, 0)", "goes(61)", "look(4)");
        e.is(x, "asked()", 77);
        WheelWeeks frail = Due.wheel("r9999999903c91c91c99c99");
        e.run(frail, "spoke(2, 2)");
        e.none(frail, "gate()");
        e.is(frail, "asked()", 9);
    }

    private void count() {
        e.says(40, "12 IRON ones (RUSTED, too). BAD.");
        WheelWeeks none = new WheelWeeks();
        e.refuses(none, Edges.BAD, "count(-1)", "count(13)", "count(MIN)", "count(MAX)");
        WheelWeeks x = Due.wheel("r1111111142 c95 i89 u71 s35 i55");
        e.refuses(x, Edges.BAD, "count(-1)", "count(13)", "count(MIN)", "count(MAX)");
        e.says(40, "0 SPOKES, 1 the RUT (its number), 2 DEEDS, 3 the SPOKE on which it stands, 4 SPOKES that are there (bits), "
            + "5 whether it is dry (1, 0), 6 whether it is OVER (1, 0), 7 how far the GATE is, 8 ROWS, 9 TEXTS that are there, "
            + "10 kept WHEELS, 11 how LONG all that are there are together, 12 IRON ones (RUSTED, too).");
        e.counts(x, 5, 0, 0, 0, 31, 0, 0, 42, 0, 1, 0, 32, 3);
        e.run(x, "weather()");
        e.runTimes(x, 9, "step()");
        e.run(x, "knock(2) row(5, 0) text(3, 0) keep(2)");
        // the RUT is its number, not what it by 8 leaves over; the IRON ones, gone ones too
        e.counts(x, 5, 9, 11, 4, 27, 1, 0, 42, 1, 2, 1, 25, 3);
        e.run(x, "knock(1) keep(2)");
        e.counts(x, 5, 9, 12, 4, 25, 1, 1, 42, 1, 2, 1, 17, 3);
        e.run(x, "knock(0) knock(3) knock(4) tear(5)");
        e.counts(x, 5, 9, 15, 4, 0, 1, 1, 42, 0, 2, 1, 0, 3);
    }

    private void countMost() {
        e.says(40, "10 kept WHEELS, 11 how LONG all that are there are together");
        WheelWeeks x = Due.wheel("r0000000060u91u91u91u91u91u91u91u91");
        for (int k = 0; k < 6; k++) {
            e.run(x, "row(" + k + ", 40)");
        }
        e.run(x, "text(1, 60) text(2, 60) text(3, 60) weather()");
        e.runTimes(x, 39, "step()");
        e.run(x, "keep(0) keep(1) keep(2)");
        e.counts(x, 8, 39, 40, 7, 255, 1, 0, 60, 6, 4, 3, 72, 8);
    }

    private void finding() {
        e.says(41, "The latest FINDING (0 before any).");
        WheelWeeks x = Due.wheel(FLAT);
        e.is(x, "finding()", 0);
        e.refuses(x, Edges.BAD, "row(6, 0)", "goes(61)");
        e.run(x, "text(3, 0)");
        e.refuses(x, Edges.STATE, "wheel(3)");
        e.is(x, "finding()", 0);
        e.finds(x, Edges.SIZE, "row(0, -1)");
        e.finds(x, Edges.NOTHING, "at(0, 0)");
        e.run(x, "row(0, 0) step()");
        e.is(x, "finding()", 1);
        e.finds(x, Edges.NOUGHT, "mean(0)");
        e.finds(x, Edges.UNLIKE, "mark(0, 1)");
        e.finds(x, Edges.BEYOND, "at(0, 0)");
        e.is(x, "finding()", 2);
    }

    private void findings() {
        e.says(42, "How often a FINDING (1 .. 5) was answered. BAD.");
        WheelWeeks x = Due.wheel(FLAT);
        e.refuses(x, Edges.BAD, "findings(0)", "findings(6)", "findings(-1)", "findings(MIN)", "findings(MAX)");
        for (int f = 1; f <= 5; f++) {
            e.is(x, "findings(" + f + ")", 0);
        }
        e.run(x, "row(1, 0)");
        String[] calls = {"tear(0)", "at(1, 0)", "mark(0, 1)", "mean(1)", "text(0, -1)"};
        for (int f = 1; f <= 5; f++) {
            for (int k = 0; k < f + 1; k++) {
                e.finds(x, f, calls[f - 1]);
            }
        }
        e.refuses(x, Edges.BAD, "findings(0)", "findings(6)");
        for (int f = 1; f <= 5; f++) {
            e.is(x, "findings(" + f + ")", f + 1);
        }
        e.run(x, "wheel(0)");
        e.is(x, "findings(5)", 6);
    }

    private static final String DIGEST = "h = 17; then h = 31 h + v for each v: count() 0 to 12; RUTS 0 to 7 (how deep); "
        + "of each SPOKE spoke() 0 to 5; of each kept WHEEL how many DEEDS (-1: missing); "
        + "of each ROW its size (-1: missing) and places, of each TEXT likewise.";

    private static long mixed(List<Integer> told) {
        long h = 17;
        for (int v : told) {
            h = 31 * h + v;
        }
        return h;
    }

    private void digestOfNone() {
        e.says(43, DIGEST);
        List<Integer> told = new ArrayList<>();
        for (int k = 0; k < 13 + 8; k++) {
            told.add(0);
        }
        for (int k = 0; k < 3 + 6 + 4; k++) {
            told.add(-1);
        }
        WheelWeeks x = new WheelWeeks();
        e.is(x, "digest()", mixed(told));
        // one that is empty is not one that is missing
        e.run(x, "row(5, 0)");
        told.set(8, 1);
        told.set(21 + 3 + 5, 0);
        e.is(x, "digest()", mixed(told));
        e.run(x, "text(0, 0)");
        told.set(9, 1);
        told.set(21 + 3 + 6, 0);
        e.is(x, "digest()", mixed(told));
        e.run(x, "tear(5)");
        told.set(8, 0);
        told.set(21 + 3 + 5, -1);
        e.is(x, "digest()", mixed(told));
    }

    /** Everything as full as it can be, with the least and the greatest numbers. */
    private void digestOfAll() {
        e.says(43, DIGEST);
        WheelWeeks x = Due.wheel("r9876543260u91g92i93c94s95e96u97g98");
        List<Integer> told = new ArrayList<>();
        List<Integer> behind = new ArrayList<>();
        e.run(x, "keep(1) lots(20, 99) lots(20, 98) keep(2)");
        for (int r = 0; r < 6; r++) {
            e.run(x, "row(" + r + ", 40)");
            behind.add(40);
            for (int i = 0; i < 40; i++) {
                int v = i % 3 == 0 ? Integer.MIN_VALUE + r : i % 3 == 1 ? Integer.MAX_VALUE - i : -i;
                x.lay(r, i, v);
                behind.add(v);
            }
        }
        for (int t = 0; t < 4; t++) {
            e.run(x, "text(" + t + ", 60)");
            behind.add(60);
            for (int i = 0; i < 60; i++) {
                x.put(t, i, 100 + 5 * i + t);
                behind.add((int) (byte) (100 + 5 * i + t));
            }
        }
        for (int what = 0; what <= 12; what++) {
            told.add(x.count(what));
        }
        told.addAll(List.of(9, 8, 7, 6, 5, 4, 3, 2));
        for (int i = 0; i < 8; i++) {
            for (int what = 0; what <= 5; what++) {
                told.add(Due.asked(x, x.spoke(i, what)));
            }
        }
        told.addAll(List.of(-1, 0, 40));
        told.addAll(behind);
        e.is(x, "digest()", mixed(told));
        e.is(x, "digest()", mixed(told));
    }

    /** The 512th call is promised still. */
    private void lastCall() {
        WheelWeeks x = new WheelWeeks();
        e.says(43, "h = 17; then h = 31 h + v for each v");
        String text = "r0000000000c11c11c11c11";
        x.text(0, text.length());
        for (int i = 0; i < text.length(); i++) {
            x.put(0, i, text.charAt(i));
        }
        x.wheel(0);
        int calls = 1 + text.length() + 1;
        long digest = x.digest();
        calls++;
        for (; calls < 510; calls++) {
            e.is(x, calls % 2 == 0 ? "weather()" : "undo(0)", 1);
        }
        e.is(calls + " calls, undo(0)", x.undo(0) >= 0 ? 1 : 0, 1);
        e.is("call 512, digest()", x.digest(), digest);
    }
}

/** Promises 1, 37 and 40 to 43: what is told of all. */
public final class ToldTest {
    private static final Due due = new Due("ToldTest");

    public static void main(String[] args) {
        constants();
        newObject();
        asked();
        askedStays();
        count();
        countWrong();
        findings();
        digest();
        digestTellsNothingElse();
        twoObjects();
        due.end();
    }

    private static void constants() {
        due.is("BAD", WheelWeeks.BAD, -1);
        due.is("FULL", WheelWeeks.FULL, -2);
        due.is("FINDING", WheelWeeks.FINDING, -3);
        due.is("STATE", WheelWeeks.STATE, -4);
        due.is("SPENT", WheelWeeks.SPENT, -6);
        due.is("NONE", WheelWeeks.NONE, -9);
    }

    private static void newObject() {
        WheelWeeks x = new WheelWeeks();
        for (int what = 0; what <= 12; what++) {
            due.is("count(" + what + ")", x.count(what), 0);
        }
        due.is("asked()", x.asked(), 0);
        due.is("upper()", x.upper(), 0);
        due.is("lower()", x.lower(), 1);
        due.is("finding()", x.finding(), 0);
        for (int f = 1; f <= 5; f++) {
            due.is("findings(" + f + ")", x.findings(f), 0);
        }
        int[] told = new int[13 + 8 + 3 + 6 + 4];
        java.util.Arrays.fill(told, 21, told.length, -1);
        due.is("digest()", x.digest(), mixed(told));
        for (int r = 0; r < 6; r++) {
            due.is("tear(" + r + ")", x.tear(r), -3);
        }
        for (int t = 0; t < 4; t++) {
            due.is("fault(" + t + ")", x.fault(t), -3);
        }
    }

    private static long mixed(int... told) {
        long h = 17;
        for (int v : told) {
            h = 31 * h + v;
        }
        return h;
    }

    private static void asked() {
        WheelWeeks x = Due.wheel("r9191919100i11c99i11c99");
        Due.row(x, 0, 5, 1, 6);
        x.lay(0, 0, 9);
        due.is("asked() of lay()", x.asked(), 5);
        x.at(0, 2);
        due.is("asked() of at()", x.asked(), 6);
        x.row(1, 4);
        x.lay(1, 0, -9);
        x.mean(1);
        due.is("asked() of mean()", x.asked(), -2);
        x.spoke(1, 2);
        due.is("asked() of spoke()", x.asked(), 9);
        x.goes(3);
        due.is("asked() of goes()", x.asked(), 2);
        x.gate();
        due.is("asked() of gate()", x.asked(), 0);
        x.change();
        due.is("asked() of change()", x.asked(), 5);
        x.turned();
        due.is("asked() of turned()", x.asked(), 0);
        x.look(1);
        due.is("asked() of look()", x.asked(), 6);
        x.knock(1);
        x.limps(4, 2);
        x.gone(2);
        due.is("asked() of gone()", x.asked(), 2);
        x.knock(2);
        x.over();
        due.is("asked() of over()", x.asked(), 6);
    }

    private static void askedStays() {
        WheelWeeks x = Due.wheel("r0000000000c11c11c11");
        Due.row(x, 0, 77);
        Due.row(x, 1, 0, 0, 0);
        x.at(0, 0);
        x.lay(0, 1, 5);
        x.at(6, 0);
        x.mean(4);
        x.spoke(3, 0);
        x.goes(61);
        x.look(3);
        x.over();
        x.change();
        x.gone(0);
        x.row(2, 3);
        x.copy(0, 0, 2, 0, 1);
        x.text(1, 3);
        x.put(1, 1, 5);
        x.fault(1);
        x.mark(0, 1);
        x.bears(0, 0, 0);
        x.limps(3, 3);
        x.strengths(0, 1);
        x.kinds(0, 1);
        x.duel(2);
        x.odds(3, 3);
        x.mid(3);
        x.weather();
        x.step();
        x.soak();
        x.knock(1);
        x.mend(1);
        x.keep(0);
        x.on(0);
        x.undo(3);
        x.lots(3, 3);
        x.count(0);
        x.digest();
        x.tear(0);
        x.wheel(0);
        due.is("asked()", x.asked(), 77);
    }

    private static void count() {
        WheelWeeks x = Due.wheel("r1111111142 c95 i89 u71 s35 i55");
        counts(x, 5, 0, 0, 0, 31, 0, 0, 42, 0, 1, 0, 32, 3);
        x.weather();
        x.step();
        x.step();
        x.knock(2);
        x.row(4, 0);
        x.row(5, 1);
        x.text(3, 0);
        x.keep(2);
        counts(x, 5, 2, 4, 2, 27, 1, 0, 42, 2, 2, 1, 25, 3);
        x.knock(1);
        x.keep(0);
        counts(x, 5, 2, 5, 2, 25, 1, 1, 42, 2, 2, 2, 17, 3);
        x.tear(5);
        x.mend(1);
        x.step();
        x.step();
        x.step();
        counts(x, 5, 5, 9, 0, 27, 1, 0, 42, 1, 2, 2, 25, 3);
        Due.write(x, 0, "r1111111142 c11 i21 u31 s41 e51 g61 i71 u81");
        x.wheel(0);
        counts(x, 8, 0, 0, 0, 255, 0, 0, 42, 1, 2, 0, 36, 4);
        Due.write(x, 0, "r1111111142 c11 i21 u31");
        x.wheel(0);
        counts(x, 3, 0, 0, 0, 7, 0, 0, 42, 1, 2, 0, 6, 2);
    }

    private static void counts(WheelWeeks x, int... wanted) {
        for (int what = 0; what < wanted.length; what++) {
            due.is("count(" + what + ")", x.count(what), wanted[what]);
        }
    }

    private static void countWrong() {
        WheelWeeks x = new WheelWeeks();
        due.is("count(-1)", x.count(-1), -1);
        due.is("count(13)", x.count(13), -1);
        due.is("findings(0)", x.findings(0), -1);
        due.is("findings(6)", x.findings(6), -1);
        due.is("findings(-3)", x.findings(-3), -1);
    }

    private static void findings() {
        WheelWeeks x = Due.wheel("r1111111142c11c11c11");
        int[] many = {0, 3, 2, 4, 1, 5};
        for (int k = 0; k < many[1]; k++) {
            due.finds("tear(0)", x, x.tear(0), 1);
        }
        x.row(0, 0);
        for (int k = 0; k < many[2]; k++) {
            due.finds("at(0, 0)", x, x.at(0, 0), 2);
        }
        for (int k = 0; k < many[3]; k++) {
            due.finds("mark(0, 1)", x, x.mark(0, 1), 3);
        }
        for (int k = 0; k < many[4]; k++) {
            due.finds("mean(0)", x, x.mean(0), 4);
        }
        for (int k = 0; k < many[5]; k++) {
            due.finds("row(0, -1)", x, x.row(0, -1), 5);
        }
        x.row(9, 9);
        x.step();
        x.wheel(9);
        due.is("finding() stays", x.finding(), 5);
        for (int f = 1; f <= 5; f++) {
            due.is("findings(" + f + ")", x.findings(f), many[f]);
        }
    }

    private static void digest() {
        WheelWeeks x = Due.wheel("r1203045658u98c17s30");
        x.weather();
        x.step();
        x.knock(2);
        x.keep(1);
        Due.row(x, 1, 3, -4);
        x.row(5, 0);
        x.text(0, 0);
        x.text(2, 2);
        x.put(2, 1, 200);
        int[] told = {3, 1, 3, 1, 3, 1, 0, 58, 2, 2, 1, 10, 1,
            1, 2, 0, 3, 0, 4, 5, 6,
            5, 9, 8, 1, 1, 15, 0, 1, 7, 0, 1, 14, 1, 3, 0, 0, 0, 0,
            -1, 3, -1,
            -1, 2, 3, -4, -1, -1, -1, 0,
            0, -1, 2, 32, -56, -1};
        due.is("digest()", x.digest(), mixed(told));
    }

    private static void digestTellsNothingElse() {
        WheelWeeks x = Due.wheel("r1203045658u98c17s30");
        Due.row(x, 0, 5);
        x.at(0, 0);
        due.is("digest() twice", x.digest() == x.digest() ? 1 : 0, 1);
        due.is("asked()", x.asked(), 5);
        due.is("finding()", x.finding(), 0);
    }

    private static void twoObjects() {
        WheelWeeks x = Due.wheel("r1203045658u98c17s30");
        WheelWeeks y = new WheelWeeks();
        long digest = y.digest();
        x.row(0, 3);
        x.tear(5);
        x.keep(0);
        due.is("digest() of another", y.digest(), digest);
        due.is("findings(1) of another", y.findings(1), 0);
    }
}

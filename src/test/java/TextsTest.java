/** Promises 8 to 11: TEXTS, their FAULTS, and WHEELS by them. */
public final class TextsTest {
    private static final int NOTHING = 1, BEYOND = 2, SIZE = 5;
    private static final String ROAD = "r1234567860";
    private static final Due due = new Due("TextsTest");

    public static void main(String[] args) {
        text();
        put();
        faultless();
        faultsOfTheRoad();
        faultsOfSpokes();
        faultWrong();
        wheel();
        wheelAnew();
        due.end();
    }

    private static void text() {
        WheelWeeks x = new WheelWeeks();
        due.is("text(0, 0)", x.text(0, 0), 0);
        due.is("text(3, 60)", x.text(3, 60), 60);
        due.is("text(3, 61)", x.text(3, 61), -1);
        due.is("text(4, 1)", x.text(4, 1), -1);
        due.is("text(-1, -1)", x.text(-1, -1), -1);
        due.finds("text(3, -1)", x, x.text(3, -1), SIZE);
        due.is("count(9)", x.count(9), 2);
        due.is("put(3, 59, 7)", x.put(3, 59, 7), 1032);
        due.is("put(3, 59, 7)", x.put(3, 59, 7), 1007);
        due.is("text(3, 60) anew", x.text(3, 60), 60);
        due.is("put(3, 59, 7)", x.put(3, 59, 7), 1032);
    }

    private static void put() {
        WheelWeeks x = new WheelWeeks();
        due.finds("put(0, 0, 1)", x, x.put(0, 0, 1), NOTHING);
        x.text(0, 2);
        due.is("put(0, 1, 200)", x.put(0, 1, 200), 1032);
        due.is("put(0, 1, -1)", x.put(0, 1, -1), 944);
        due.is("put(0, 1, 128)", x.put(0, 1, 128), 999);
        due.is("put(0, 1, 127)", x.put(0, 1, 127), 872);
        due.is("put(0, 1, 256 + 65)", x.put(0, 1, 321), 1127);
        due.is("put(0, 1, 0)", x.put(0, 1, 0), 1065);
        due.finds("put(0, 2, 1)", x, x.put(0, 2, 1), BEYOND);
        due.finds("put(0, -1, 1)", x, x.put(0, -1, 1), BEYOND);
        due.is("put(4, 0, 1)", x.put(4, 0, 1), -1);
        due.is("put(-1, 0, 1)", x.put(-1, 0, 1), -1);
        due.is("asked() is not told by put()", x.asked(), 0);
    }

    private static void faultless() {
        fault(ROAD + "c10c10c10", -9);
        fault("   " + ROAD + "  s19  e90 g55   i31u99  ", -9);
        fault(ROAD + "c10s10e10g10i10u10c99c99", -9);
        fault("r0000000000c11c11c11", -9);
        fault("r9999999960 c11 c11 c11 c11 c11 c11 c11 c11                 ", -9);
    }

    private static void faultsOfTheRoad() {
        fault("", 0);
        fault("    ", 4);
        fault("x", 0);
        fault("  c", 2);
        fault("R12345678", 0);
        fault("r", 1);
        fault("r 1234567860", 1);
        fault("r1234567", 8);
        fault("r1234567x", 8);
        fault("r1234 67860", 5);
        fault("r123456786", 10);
        fault("r12345678 60", 9);
        fault("r123456786 0", 10);
        fault("r1234567861", 9);
        fault("r1234567899", 9);
        fault("r123456789", 10);
        fault("r123456789x", 10);
        fault("r1234567870c11c11c11", 9);
        fault("   r1234567861", 12);
    }

    private static void faultsOfSpokes() {
        fault(ROAD, 11);
        fault(ROAD + "   ", 14);
        fault(ROAD + "0", 11);
        fault(ROAD + "r11", 11);
        fault(ROAD + "c", 12);
        fault(ROAD + "c01", 12);
        fault(ROAD + "c:1", 12);
        fault(ROAD + "c 11", 12);
        fault(ROAD + "c1", 13);
        fault(ROAD + "c1 1", 13);
        fault(ROAD + "c1/", 13);
        fault(ROAD + "c11c11", 17);
        fault(ROAD + "c11c11  ", 19);
        fault(ROAD + "c11c11c", 18);
        fault(ROAD + "c11c11c11c", 21);
        fault(ROAD + "c11c11c11111", 20);
        fault(ROAD + "c11c11c11c11c11c11c11c11 c11", 36);
        fault(ROAD + "c11c11c11c11c11c11c11c11c", 35);
        fault(ROAD + "c11c11c11c11c11c11c11c11 x", 36);
        fault(ROAD + "c11c11c11" + (char) 160, 20);
        fault(ROAD + "c11c11c11" + (char) 9, 20);
    }

    private static void faultWrong() {
        WheelWeeks x = new WheelWeeks();
        due.is("fault(4)", x.fault(4), -1);
        due.is("fault(-1)", x.fault(-1), -1);
        due.finds("fault(3)", x, x.fault(3), NOTHING);
    }

    private static void wheel() {
        WheelWeeks x = new WheelWeeks();
        due.is("wheel(4)", x.wheel(4), -1);
        due.is("wheel(-1)", x.wheel(-1), -1);
        due.finds("wheel(2)", x, x.wheel(2), NOTHING);
        Due.write(x, 2, " r1203045658 u98 c17  s30e20 ");
        due.is("wheel(2)", x.wheel(2), 4);
        due.is("count(0)", x.count(0), 4);
        due.is("count(7)", x.count(7), 58);
        due.is("count(4)", x.count(4), 15);
        int[][] wanted = {{5, 9, 8}, {0, 1, 7}, {1, 3, 0}, {2, 2, 0}};
        for (int i = 0; i < 4; i++) {
            for (int what = 0; what < 3; what++) {
                due.is("spoke(" + i + ", " + what + ")", Due.asked(x, x.spoke(i, what)), wanted[i][what]);
            }
        }
        Due.write(x, 3, "r1203045661c11c11c11");
        due.is("wheel(3), a FAULT", x.wheel(3), -4);
        due.is("count(7)", x.count(7), 58);
        x.text(3, 0);
        due.is("wheel(3), empty", x.wheel(3), -4);
        due.is("count(0)", x.count(0), 4);
    }

    private static void wheelAnew() {
        WheelWeeks x = Due.wheel("r1234567860c99c99c99c99");
        x.weather();
        x.step();
        x.step();
        x.knock(3);
        x.keep(0);
        x.keep(2);
        due.is("count(10)", x.count(10), 2);
        due.is("wheel(0) anew", x.wheel(0), 4);
        int[] wanted = {4, 0, 0, 0, 15, 0, 0, 60, 0, 1, 0, 36, 0};
        for (int what = 0; what <= 12; what++) {
            due.is("count(" + what + ")", x.count(what), wanted[what]);
        }
        due.is("spoke(0, 3)", Due.asked(x, x.spoke(0, 3)), 0);
        due.finds("on(0)", x, x.on(0), NOTHING);
        x.text(0, 0);
        due.is("the WHEEL stays without its TEXT", x.step(), 0);
    }

    private static void fault(String text, int want) {
        WheelWeeks x = new WheelWeeks();
        Due.write(x, 1, text);
        due.is("fault of '" + text + "'", x.fault(1), want);
        due.is("wheel of '" + text + "'", x.wheel(1) == -4 ? 1 : 0, want == -9 ? 0 : 1);
    }
}

/** What the tests share: an answer against the one that is due, and TEXTS written whole. */
final class Due {
    private final String test;
    private int right = 0;
    private int wrong = 0;

    Due(String test) {
        this.test = test;
    }

    void is(String call, long got, long want) {
        if (got == want) {
            right++;
        } else {
            wrong++;
            System.out.println(test + ": " + call + " answered " + got + ", due is " + want);
        }
    }

    /** A FINDING is refused, and finding() tells which. */
    void finds(String call, WheelWeeks x, int got, int finding) {
        is(call, got, WheelWeeks.FINDING);
        is(call + ", finding()", x.finding(), finding);
    }

    void end() {
        System.out.println(test + ": " + right + " answers as due, " + wrong + " not");
        if (wrong != 0) {
            System.exit(1);
        }
    }

    static void write(WheelWeeks x, int t, String text) {
        x.text(t, text.length());
        for (int i = 0; i < text.length(); i++) {
            x.put(t, i, text.charAt(i));
        }
    }

    /** A new object with a WHEEL by this TEXT. */
    static WheelWeeks wheel(String text) {
        WheelWeeks x = new WheelWeeks();
        write(x, 0, text);
        if (x.wheel(0) < 0) {
            throw new IllegalStateException("no WHEEL: " + text);
        }
        return x;
    }

    static void row(WheelWeeks x, int r, int... numbers) {
        x.row(r, numbers.length);
        for (int i = 0; i < numbers.length; i++) {
            x.lay(r, i, numbers[i]);
        }
    }

    static int asked(WheelWeeks x, int answered) {
        return answered == 1 ? x.asked() : Integer.MIN_VALUE;
    }
}

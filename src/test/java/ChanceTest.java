/** Promises 34, 35, 38, 39: chances, means, in lowest terms. */
public final class ChanceTest {
    private static final String FLAT = "r0000000000c11c11c11c11";
    private static final Due due = new Due("ChanceTest");

    public static void main(String[] args) {
        odds();
        oddsOfGoneOnes();
        mid();
        great();
        aside();
        wrong();
        due.end();
    }

    private static void odds() {
        WheelWeeks x = Due.wheel(FLAT);
        due.is("upper() before", x.upper(), 0);
        due.is("lower() before", x.lower(), 1);
        // by 6 of 12: none gone 0, one gone 3, two that are not next 6, else 12 times
        odds(x, 0, 6, 1, 16);
        odds(x, 2, 6, 1, 16);
        odds(x, 3, 6, 5, 16);
        odds(x, 6, 6, 7, 16);
        odds(x, 11, 6, 7, 16);
        odds(x, 12, 6, 1, 1);
        odds(x, 20, 6, 1, 1);
        odds(x, 0, 3, 81, 256);
        odds(x, 0, 0, 1, 1);
        odds(x, 11, 12, 0, 1);
        odds(x, 12, 12, 1, 1);
        odds(x, 0, 11, 1, 20736);
    }

    private static void oddsOfGoneOnes() {
        WheelWeeks x = Due.wheel(FLAT);
        x.knock(0);
        odds(x, 2, 6, 0, 1);
        odds(x, 3, 6, 1, 8);
        odds(x, 6, 6, 1, 4);
        mid(x, 6, 81, 8);
        x.knock(1);
        x.knock(2);
        x.knock(3);
        odds(x, 11, 5, 0, 1);
        odds(x, 12, 5, 1, 1);
        mid(x, 5, 12, 1);
    }

    private static void mid() {
        WheelWeeks x = Due.wheel(FLAT);
        mid(x, 0, 0, 1);
        mid(x, 6, 33, 4);
        mid(x, 12, 12, 1);
        // by 4 of 12: (4 of 8 ways at 3, 2 of 4 at 6) and the other 81 - 16 - 32 - 8 at 12
        mid(x, 4, 4 * 8 * 3 + 2 * 4 * 6 + 25 * 12, 81, 3);
    }

    private static void great() {
        WheelWeeks x = Due.wheel("r0000000000c11c11c11c11c11c11c11c11");
        odds(x, 0, 1, 214358881, 429981696);
        odds(x, 0, 11, 1, 429981696);
    }

    private static void odds(WheelWeeks x, int v, int p, long upper, long lower) {
        String call = "odds(" + v + ", " + p + ")";
        due.is(call, x.odds(v, p), 1);
        due.is(call + ", upper()", x.upper(), upper);
        due.is(call + ", lower()", x.lower(), lower);
    }

    private static void mid(WheelWeeks x, int p, long upper, long lower) {
        mid(x, p, upper, lower, 1);
    }

    private static void mid(WheelWeeks x, int p, long upper, long lower, long by) {
        due.is("mid(" + p + ")", x.mid(p), 1);
        due.is("mid(" + p + "), upper()", x.upper(), upper / by);
        due.is("mid(" + p + "), lower()", x.lower(), lower / by);
    }

    private static void aside() {
        WheelWeeks x = Due.wheel("r9999999900c91c91c99c99");
        long digest = x.digest();
        x.odds(3, 5);
        x.mid(5);
        due.is("digest()", x.digest(), digest);
        due.is("asked() is not told", x.asked(), 0);
    }

    private static void wrong() {
        WheelWeeks x = new WheelWeeks();
        due.is("odds(21, 0), no SPOKES", x.odds(21, 0), -1);
        due.is("odds(0, 0), no SPOKES", x.odds(0, 0), -4);
        due.is("mid(13), no SPOKES", x.mid(13), -1);
        due.is("mid(12), no SPOKES", x.mid(12), -4);
        WheelWeeks y = Due.wheel(FLAT);
        odds(y, 0, 6, 1, 16);
        due.is("odds(21, 0)", y.odds(21, 0), -1);
        due.is("odds(-1, 0)", y.odds(-1, 0), -1);
        due.is("odds(0, 13)", y.odds(0, 13), -1);
        due.is("odds(0, -1)", y.odds(0, -1), -1);
        due.is("mid(13)", y.mid(13), -1);
        due.is("mid(-1)", y.mid(-1), -1);
        due.is("upper() behind refusals", y.upper(), 1);
        due.is("lower() behind refusals", y.lower(), 16);
    }
}

import java.io.IOException;
import java.lang.reflect.InvocationTargetException;
import java.lang.reflect.Method;
import java.nio.file.Files;
import java.nio.file.Path;
import java.util.ArrayList;
import java.util.HashMap;
import java.util.List;
import java.util.Map;
import java.util.TreeMap;
import java.util.regex.Matcher;
import java.util.regex.Pattern;

/**
 * What the tests of boundary cases share. Each case stands under the document's own words: says()
 * looks them up, and what is due behind it is told with them. Calls are told as they are written,
 * "copy(0, 1, 2, 3, 4)", with MIN and MAX for the least and the greatest int.
 */
final class Edges {
    static final int BAD = -1, FULL = -2, STATE = -4, NONE = -9;
    static final int NOTHING = 1, BEYOND = 2, UNLIKE = 3, NOUGHT = 4, SIZE = 5;
    /** The number of the part 'Terms', ahead of the promises. */
    static final int TERMS = 0;
    private static final Pattern CALL = Pattern.compile("(\\w+)\\(([^)]*)\\)");
    private static final Path DOCUMENT = Path.of("../shared/DOC.md");

    private final Due due;
    private final Map<Integer, String> parts = new TreeMap<>();
    private final Map<Integer, boolean[]> quoted = new HashMap<>();
    private final Map<String, Method> face = new HashMap<>();
    private String words = "";

    Edges(Due due) throws IOException {
        this.due = due;
        for (Method m : WheelWeeks.class.getDeclaredMethods()) {
            face.put(m.getName() + " " + m.getParameterCount(), m);
        }
        Matcher part = Pattern.compile("(?ms)^## (Terms|Promise (\\d+):[^\n]*)\n(.*?)(?=^## |\\z)")
            .matcher(Files.readString(DOCUMENT));
        while (part.find()) {
            int number = part.group(2) == null ? TERMS : Integer.parseInt(part.group(2));
            parts.put(number, part.group(3));
            quoted.put(number, new boolean[part.group(3).length()]);
        }
    }

    /** The sentence that the next cases are of, as the document has it in this part. */
    void says(int part, String sentence) {
        words = "'" + sentence + "' (" + (part == TERMS ? "Terms" : "promise " + part) + "): ";
        String text = parts.getOrDefault(part, "");
        int at = text.indexOf(sentence);
        due.is(words + "stands in the document", at >= 0 ? 1 : 0, 1);
        if (at >= 0) {
            java.util.Arrays.fill(quoted.get(part), at, at + sentence.length(), true);
        }
    }

    /** Refusals, bounds and the like of the document that stand in no sentence that was quoted. */
    List<String> unquoted() {
        Pattern named = Pattern.compile("BAD|FULL|STATE|NONE|NOTHING|BEYOND|UNLIKE|NOUGHT|SIZE|\\d \\.\\. \\d+|at most"
            + "|at least|OVER|above|below|cut|ahead|behind|anew|before|first|least|missing|more than|In this order");
        List<String> left = new ArrayList<>();
        for (int part : parts.keySet()) {
            Matcher m = named.matcher(parts.get(part));
            while (m.find()) {
                if (!quoted.get(part)[m.start()]) {
                    int from = Math.max(0, m.start() - 30);
                    int to = Math.min(parts.get(part).length(), m.end() + 30);
                    left.add("part " + part + ": .." + parts.get(part).substring(from, to).replace('\n', ' ') + "..");
                }
            }
        }
        return left;
    }

    int parts() {
        return parts.size();
    }

    /** Does one call, and answers it. */
    long call(WheelWeeks x, String told) {
        Matcher m = CALL.matcher(told);
        if (!m.matches()) {
            throw new IllegalArgumentException(told);
        }
        String[] numbers = m.group(2).isBlank() ? new String[0] : m.group(2).split(",");
        Object[] given = new Object[numbers.length];
        for (int k = 0; k < numbers.length; k++) {
            given[k] = number(numbers[k].trim());
        }
        Method method = face.get(m.group(1) + " " + given.length);
        if (method == null) {
            throw new IllegalArgumentException(told);
        }
        try {
            return ((Number) method.invoke(x, given)).longValue();
        } catch (IllegalAccessException | InvocationTargetException e) {
            // no call may ever throw
            throw new IllegalStateException(words + told, e);
        }
    }

    private static int number(String told) {
        switch (told) {
            case "MIN": return Integer.MIN_VALUE;
            case "MAX": return Integer.MAX_VALUE;
            default: return Integer.parseInt(told);
        }
    }

    /** Does calls one after the other; none may be refused. */
    void run(WheelWeeks x, String calls) {
        Matcher m = CALL.matcher(calls);
        while (m.find()) {
            long got = call(x, m.group());
            due.is(words + m.group() + " is not refused", got >= 0 || got == NONE ? 1 : 0, 1);
        }
    }

    void runTimes(WheelWeeks x, int times, String calls) {
        for (int k = 0; k < times; k++) {
            run(x, calls);
        }
    }

    void is(WheelWeeks x, String call, long want) {
        due.is(words + call, call(x, call), want);
    }

    void is(String told, long got, long want) {
        due.is(words + told, got, want);
    }

    /** An answer, and what asked() tells beside it. */
    void is(WheelWeeks x, String call, long want, int asked) {
        is(x, call, want);
        due.is(words + call + ", asked()", x.asked(), asked);
    }

    /** asked() behind a call that answers 1. */
    void tells(WheelWeeks x, String call, int asked) {
        is(x, call, 1, asked);
    }

    /** NONE: asked() is as it was. */
    void none(WheelWeeks x, String call) {
        int before = x.asked();
        is(x, call, NONE, before);
    }

    /** upper() by lower() behind a call that answers 1. */
    void share(WheelWeeks x, String call, long upper, long lower) {
        is(x, call, 1);
        due.is(words + call + ", upper()", x.upper(), upper);
        due.is(words + call + ", lower()", x.lower(), lower);
    }

    /** BAD, FULL or STATE, and nothing at all has changed. */
    void refuses(WheelWeeks x, int want, String... calls) {
        for (String call : calls) {
            long[] before = all(x);
            due.is(words + call, call(x, call), want);
            same(x, call, before);
        }
    }

    /** A FINDING, and nothing has changed but finding(), findings(). */
    void finds(WheelWeeks x, int finding, String... calls) {
        for (String call : calls) {
            long[] before = all(x);
            due.is(words + call, call(x, call), WheelWeeks.FINDING);
            due.is(words + call + ", finding()", x.finding(), finding);
            before[0] = finding;
            before[finding]++;
            same(x, call, before);
        }
    }

    private void same(WheelWeeks x, String call, long[] before) {
        long[] behind = all(x);
        for (int k = 0; k < before.length; k++) {
            due.is(words + call + ", number " + k + " of what is told behind it", behind[k], before[k]);
        }
    }

    /** finding(), findings() 1 to 5, then all else that is told of an object. */
    private static long[] all(WheelWeeks x) {
        return new long[] {x.finding(), x.findings(1), x.findings(2), x.findings(3), x.findings(4), x.findings(5),
            x.asked(), x.upper(), x.lower(), x.digest()};
    }

    void counts(WheelWeeks x, int... wanted) {
        for (int what = 0; what < wanted.length; what++) {
            is(x, "count(" + what + ")", wanted[what]);
        }
    }

    void wears(WheelWeeks x, int... wanted) {
        for (int i = 0; i < wanted.length; i++) {
            tells(x, "spoke(" + i + ", 3)", wanted[i]);
        }
    }

    /** A ROW with just these numbers, and no place behind them. */
    void holds(WheelWeeks x, int r, int... wanted) {
        for (int i = 0; i < wanted.length; i++) {
            tells(x, "at(" + r + ", " + i + ")", wanted[i]);
        }
        finds(x, BEYOND, "at(" + r + ", " + wanted.length + ")");
    }
}

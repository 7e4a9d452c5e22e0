import java.util.Random;

/** All promises: long runs of calls by chance (of seeds that stay), against the Oracle. */
public final class OracleTest {
    private static final int RUNS = 1200, CALLS = 300;
    private static final Due due = new Due("OracleTest");
    private static final String[] CALLED = {"row", "lay", "at", "tear", "copy", "mean", "text", "put", "fault",
        "wheel", "spoke", "mark", "bears", "step", "soak", "weather", "knock", "mend", "undo", "keep", "on",
        "goes", "over", "limps", "gate", "turned", "change", "gone", "strengths", "kinds", "look", "duel",
        "odds", "mid", "lots", "count", "findings", "write", "limpRow", "step", "step", "step", "kinds",
        "strengths", "gone", "lots", "knock", "weather", "step"};

    private final Random chance;
    private final WheelWeeks x = new WheelWeeks();
    private final Oracle o = new Oracle();
    private final String name;
    private int calls = 0;

    private OracleTest(int seed) {
        chance = new Random(seed);
        name = "seed " + seed;
    }

    public static void main(String[] args) {
        for (int seed = 0; seed < RUNS; seed++) {
            new OracleTest(seed).run();
        }
        due.end();
    }

    private void run() {
        boolean early = chance.nextInt(5) != 0;
        if (early) {
            write();
        }
        while (calls < CALLS) {
            String call = CALLED[chance.nextInt(CALLED.length)];
            if (call.equals("write")) {
                if (chance.nextInt(6) == 0) {
                    write();
                }
            } else if (call.equals("limpRow")) {
                limpRow();
            } else if (!call.equals("wheel") || chance.nextInt(8) == 0) {
                call(call, some(), some(), some(), some(), some());
            }
        }
    }

    /** Mostly numbers that may be right. */
    private int some() {
        switch (chance.nextInt(12)) {
            case 0: return chance.nextInt(70) - 4;
            case 1: return chance.nextInt(14) - 1;
            case 2: return chance.nextInt(50) == 0 ? Integer.MAX_VALUE : chance.nextInt(32);
            case 3: return chance.nextInt(50) == 0 ? Integer.MIN_VALUE : chance.nextInt(24);
            case 4: return chance.nextInt(8) == 0 ? chance.nextInt() : chance.nextInt(10);
            default: return chance.nextInt(6);
        }
    }

    /** A TEXT that is a WHEEL, or nearly one, and the WHEEL by it. */
    private void write() {
        String text = text();
        int t = chance.nextInt(4);
        call("text", t, text.length(), 0, 0, 0);
        for (int i = 0; i < text.length(); i++) {
            if (text.charAt(i) != ' ') {
                call("put", t, i, text.charAt(i), 0, 0);
            }
        }
        call("fault", t, 0, 0, 0, 0);
        call("wheel", t, 0, 0, 0, 0);
    }

    private String text() {
        StringBuilder s = new StringBuilder(blanks()).append('r');
        int deepest = 3 + chance.nextInt(7);
        for (int k = 0; k < 8; k++) {
            s.append(chance.nextInt(deepest + 1));
        }
        s.append(chance.nextInt(6)).append(chance.nextInt(10)).append(blanks());
        int many = 3 + chance.nextInt(6);
        int weakest = chance.nextInt(7);
        for (int i = 0; i < many; i++) {
            s.append("csegiu".charAt(chance.nextInt(6))).append(Math.max(1, 9 - chance.nextInt(8)));
            s.append(Math.min(9, weakest + chance.nextInt(6))).append(blanks());
        }
        if (chance.nextInt(4) == 0) {
            spoil(s);
        }
        return s.length() > 60 ? s.substring(0, 60) : s.toString();
    }

    private String blanks() {
        return "  ".substring(chance.nextInt(6) == 0 ? 1 + chance.nextInt(2) : 2);
    }

    private void spoil(StringBuilder s) {
        int i = chance.nextInt(s.length());
        switch (chance.nextInt(4)) {
            case 0: s.setCharAt(i, "rcsegiux09 6\u00ff".charAt(chance.nextInt(13))); break;
            case 1: s.setLength(i); break;
            case 2: s.append("c55c55c55"); break;
            default: s.insert(i, "rcsegiux09 6".charAt(chance.nextInt(12)));
        }
    }

    /** A ROW that limps() or chance tells. */
    private void limpRow() {
        int r = chance.nextInt(6);
        int n = 1 + chance.nextInt(20);
        call("limps", n, r, 0, 0, 0);
        if (chance.nextInt(2) == 0) {
            call("lay", r, chance.nextInt(n), chance.nextInt(2), 0, 0);
        }
        call("gone", r, 0, 0, 0, 0);
        call("kinds", chance.nextInt(8), r, 0, 0, 0);
        call("strengths", chance.nextInt(8), r, 0, 0, 0);
    }

    private void call(String call, int a, int b, int c, int d, int e) {
        calls++;
        long want;
        try {
            want = ofOracle(call, a, b, c, d, e);
        } catch (Oracle.Refused refused) {
            want = refused.answer;
        }
        String told = name + ", call " + calls + ", " + call + "(" + a + ", " + b + ", " + c + ", " + d + ", " + e + ")";
        due.is(told, ofProgram(call, a, b, c, d, e), want);
        due.is(told + " asked()", x.asked(), o.asked());
        due.is(told + " upper()", x.upper(), o.upper());
        due.is(told + " lower()", x.lower(), o.lower());
        due.is(told + " finding()", x.finding(), o.finding());
        due.is(told + " digest()", x.digest(), o.digest());
    }

    private long ofOracle(String call, int a, int b, int c, int d, int e) {
        switch (call) {
            case "row": return o.row(a, b);
            case "lay": return o.lay(a, b, c);
            case "at": return o.at(a, b);
            case "tear": return o.tear(a);
            case "copy": return o.copy(a, b, c, d, e);
            case "mean": return o.mean(a);
            case "text": return o.text(a, b);
            case "put": return o.put(a, b, c);
            case "fault": return o.fault(a);
            case "wheel": return o.wheel(a);
            case "spoke": return o.spoke(a, b);
            case "mark": return o.mark(a, b);
            case "bears": return o.bears(a, b, c);
            case "step": return o.step();
            case "soak": return o.soak();
            case "weather": return o.weather();
            case "knock": return o.knock(a);
            case "mend": return o.mend(a);
            case "undo": return o.undo(a);
            case "keep": return o.keep(a);
            case "on": return o.on(a);
            case "goes": return o.goes(a);
            case "over": return o.over();
            case "limps": return o.limps(a, b);
            case "gate": return o.gate();
            case "turned": return o.turned();
            case "change": return o.change();
            case "gone": return o.gone(a);
            case "strengths": return o.strengths(a, b);
            case "kinds": return o.kinds(a, b);
            case "look": return o.look(a);
            case "duel": return o.duel(a);
            case "odds": return o.odds(a, b);
            case "mid": return o.mid(a);
            case "lots": return o.lots(a, b);
            case "count": return o.count(a);
            case "findings": return o.findings(a);
            default: throw new IllegalArgumentException(call);
        }
    }

    private long ofProgram(String call, int a, int b, int c, int d, int e) {
        switch (call) {
            case "row": return x.row(a, b);
            case "lay": return x.lay(a, b, c);
            case "at": return x.at(a, b);
            case "tear": return x.tear(a);
            case "copy": return x.copy(a, b, c, d, e);
            case "mean": return x.mean(a);
            case "text": return x.text(a, b);
            case "put": return x.put(a, b, c);
            case "fault": return x.fault(a);
            case "wheel": return x.wheel(a);
            case "spoke": return x.spoke(a, b);
            case "mark": return x.mark(a, b);
            case "bears": return x.bears(a, b, c);
            case "step": return x.step();
            case "soak": return x.soak();
            case "weather": return x.weather();
            case "knock": return x.knock(a);
            case "mend": return x.mend(a);
            case "undo": return x.undo(a);
            case "keep": return x.keep(a);
            case "on": return x.on(a);
            case "goes": return x.goes(a);
            case "over": return x.over();
            case "limps": return x.limps(a, b);
            case "gate": return x.gate();
            case "turned": return x.turned();
            case "change": return x.change();
            case "gone": return x.gone(a);
            case "strengths": return x.strengths(a, b);
            case "kinds": return x.kinds(a, b);
            case "look": return x.look(a);
            case "duel": return x.duel(a);
            case "odds": return x.odds(a, b);
            case "mid": return x.mid(a);
            case "lots": return x.lots(a, b);
            case "count": return x.count(a);
            case "findings": return x.findings(a);
            default: throw new IllegalArgumentException(call);
        }
    }
}

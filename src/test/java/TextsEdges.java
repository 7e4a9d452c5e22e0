/** The boundary cases of promises 8 to 11: TEXTS, FAULTS, WHEELS by TEXTS. */
final class TextsEdges {
    private static final String ROAD = "r1234567860", SPOKES = "c11s29e90";
    private final Edges e;

    TextsEdges(Edges e) {
        this.e = e;
    }

    void run() {
        numbers();
        text();
        put();
        blanks();
        road();
        gate();
        spokes();
        signs();
        ends();
        fault();
        wheel();
        wheelAnew();
        wheelRefused();
    }

    private void numbers() {
        e.says(Edges.TERMS, "TEXTS 0 .. 3 rows of 0 to 60 bytes");
        for (int t = 0; t <= 3; t++) {
            WheelWeeks x = new WheelWeeks();
            e.is(x, "text(" + t + ", 0)", 0);
            e.finds(x, Edges.BEYOND, "put(" + t + ", 0, 1)");
            e.is(x, "text(" + t + ", 60)", 60);
            e.is(x, "put(" + t + ", 59, 65)", 1032);
            e.is(x, "put(" + t + ", 59, 66)", 1065);
            e.is(x, "count(9)", 1);
        }
        WheelWeeks x = new WheelWeeks();
        for (int t = 0; t <= 3; t++) {
            e.run(x, "text(" + t + ", 1) put(" + t + ", 0, " + (50 + t) + ")");
        }
        for (int t = 0; t <= 3; t++) {
            e.is(x, "put(" + t + ", 0, 0)", 1050 + t);
        }
        e.is(x, "count(9)", 4);
    }

    private void text() {
        WheelWeeks x = new WheelWeeks();
        e.says(8, "A TEXT is there with n blanks: n.");
        e.is(x, "text(0, 0)", 0);
        e.is(x, "text(0, 60)", 60);
        for (int i = 0; i < 60; i++) {
            e.is(x, "put(0, " + i + ", 9)", 1032);
        }
        e.is(x, "text(0, 60)", 60);
        for (int i = 0; i < 60; i++) {
            e.is(x, "put(0, " + i + ", 9)", 1032);
        }
        e.says(8, "BAD: also n above 60");
        e.refuses(x, Edges.BAD, "text(0, 61)", "text(1, MAX)", "text(-1, 0)", "text(4, 0)", "text(MIN, 60)");
        e.refuses(x, Edges.BAD, "text(MAX, 60)", "text(4, -1)", "text(-1, MIN)", "text(4, 61)");
        e.says(8, "SIZE: below 0.");
        e.finds(x, Edges.SIZE, "text(0, -1)", "text(3, -1)", "text(0, MIN)");
        e.is(x, "count(9)", 1);
    }

    private void put() {
        WheelWeeks x = new WheelWeeks();
        e.says(9, "BAD; NOTHING; BEYOND.");
        e.refuses(x, Edges.BAD, "put(-1, 0, 1)", "put(4, 0, 1)", "put(MIN, -1, 1)", "put(MAX, 0, 1)");
        e.finds(x, Edges.NOTHING, "put(0, 0, 1)", "put(3, -1, 1)", "put(3, MAX, 1)");
        e.run(x, "text(0, 0) text(1, 2) text(2, 60)");
        e.finds(x, Edges.BEYOND, "put(0, 0, 1)", "put(0, -1, 1)", "put(1, 2, 1)", "put(1, -1, 1)");
        e.finds(x, Edges.BEYOND, "put(1, MIN, 1)", "put(1, MAX, 1)", "put(2, 60, 1)");
        e.says(9, "Byte i of a TEXT is v, cut to a byte: what it was, and 1000 more.");
        int[] given = {127, 128, 255, 256, -1, -128, -129, Integer.MAX_VALUE, Integer.MIN_VALUE, 0};
        int[] bytes = {127, -128, -1, 0, -1, -128, 127, -1, 0, 0};
        int was = 32;
        for (int k = 0; k < given.length; k++) {
            e.is(x, "put(1, 1, " + given[k] + ")", 1000 + was);
            was = bytes[k];
        }
        e.is(x, "put(1, 0, 7)", 1032);
        e.is("asked()", x.asked(), 0);
    }

    private void blanks() {
        e.says(Edges.TERMS, "blanks (32) ahead, between, behind as many as wanted, none within items.");
        fault(ROAD + SPOKES, Edges.NONE);
        fault(" ".repeat(40) + ROAD + SPOKES, Edges.NONE);
        fault(ROAD + " ".repeat(40) + SPOKES, Edges.NONE);
        fault(ROAD + SPOKES + " ".repeat(40), Edges.NONE);
        fault(ROAD + "c11" + " ".repeat(20) + "s29" + " ".repeat(20) + "e90", Edges.NONE);
        fault(" " + ROAD + " c11 s29 e90 c11 s29 e90 c11 s29 ", Edges.NONE);
        String one = "r1234567860c11s29e90";
        for (int i = 1; i < one.length(); i++) {
            boolean between = i == 11 || i == 14 || i == 17;
            fault(one.substring(0, i) + " " + one.substring(i), between ? Edges.NONE : i);
        }
    }

    private void road() {
        e.says(Edges.TERMS, "The first item is r (114), RUTS 0 .. 7 of the road (0 .. 9, eight figures; "
            + "RUT n is that of what n by 8 leaves over), how far the GATE is (two figures 00 .. 60).");
        for (int i = 1; i <= 8; i++) {
            fault(with(ROAD, i, '0') + SPOKES, Edges.NONE);
            fault(with(ROAD, i, '9') + SPOKES, Edges.NONE);
            fault(with(ROAD, i, '/') + SPOKES, i);
            fault(with(ROAD, i, ':') + SPOKES, i);
            fault("  " + with(ROAD, i, 'c') + SPOKES, i + 2);
        }
        // eight figures, two figures: one more is no SPOKE, one fewer is no figure
        fault("r12345678601c11c11c11", 11);
        fault("r123456760c11c11c11", 10);
        fault("c11c11c11", 0);
        fault(" " + SPOKES + ROAD, 1);
        fault(ROAD + ROAD + SPOKES, 11);
        rutsWrapAround();
    }

    /** An ELM one BEARS 3 more from depth 5 on: by that the RUTS 4 and 7, 12 and 15, .. are told. */
    private void rutsWrapAround() {
        WheelWeeks x = Due.wheel("r0000500900e99e99e99");
        for (int rut = 0; rut <= 40; rut++) {
            boolean deep = rut % 8 == 4 || rut % 8 == 7;
            e.is(x, "count(1)", rut);
            int unworn = Due.asked(x, x.spoke(0, 5)) + Due.asked(x, x.spoke(0, 3));
            e.is("spoke(0, 5) on RUT " + rut + ", no WEAR", unworn, deep ? 21 : 18);
            e.is("step() " + rut, x.step(), rut < 40 ? 0 : Edges.FULL);
        }
    }

    private void gate() {
        e.says(Edges.TERMS, "two figures that tell more than 60: the place of the first of both");
        for (int far = 0; far <= 99; far++) {
            String text = "r12345678" + far / 10 + far % 10 + SPOKES;
            fault(text, far > 60 ? 9 : Edges.NONE);
            fault("   " + text, far > 60 ? 12 : Edges.NONE);
            if (far <= 60) {
                e.is("count(7)", Due.wheel(text).count(7), far);
            }
        }
        // one figure alone tells nothing yet
        fault("r123456789", 10);
        fault("r123456787x", 10);
        fault("r123456786:", 10);
        fault("r123456786/", 10);
        fault("r123456780/" + SPOKES, 10);
        fault("r12345678/0", 9);
        fault("r12345678:0", 9);
    }

    private void spokes() {
        e.says(Edges.TERMS, "Then SPOKES (3 to 8; 0, 1, .. round the WHEEL, behind the last one the first): "
            + "a letter, how LONG (1 .. 9), how STRONG (0 .. 9), one figure each.");
        for (int many = 0; many <= 12; many++) {
            String text = ROAD + "c11".repeat(many);
            fault(text, many < 3 ? text.length() : many > 8 ? 35 : Edges.NONE);
            fault(text + "  ", many < 3 ? text.length() + 2 : many > 8 ? 35 : Edges.NONE);
            if (many >= 3 && many <= 8) {
                WheelWeeks x = Due.wheel(text);
                e.is(x, "count(0)", many);
                e.refuses(x, Edges.BAD, "spoke(" + many + ", 0)", "spoke(-1, 0)");
                e.runTimes(x, many, "step()");
                e.is(x, "count(3)", 0);
            }
        }
        for (char sign = '/'; sign <= ':'; sign++) {
            boolean figure = sign >= '0' && sign <= '9';
            fault(ROAD + "c" + sign + "1c11c11", figure && sign != '0' ? Edges.NONE : 12);
            fault(ROAD + "c1" + sign + "c11c11", figure ? Edges.NONE : 13);
            fault(ROAD + "c11c11c" + sign + "1", figure && sign != '0' ? Edges.NONE : 18);
            fault(ROAD + "c11c11c1" + sign, figure ? Edges.NONE : 19);
        }
        fault(ROAD + "c111c11c11", 14);
        fault(ROAD + "c1c11c11", 13);
        fault(ROAD + "cc11c11c11", 12);
    }

    /** All bytes, where a letter is due. */
    private void signs() {
        e.says(Edges.TERMS, "(a letter, a figure that is none such, a ninth SPOKE: its place;");
        for (int b = -128; b < 128; b++) {
            boolean letter = b >= 0 && "csegiu".indexOf((char) b) >= 0;
            boolean blank = b == 32;
            faultWith(ROAD + "c11c11c11", 0, b, b == 'r' ? Edges.NONE : blank ? 1 : 0);
            faultWith(ROAD + "c11c11c11", 11, b, letter ? Edges.NONE : blank ? 12 : 11);
            faultWith(ROAD + "c11c11c11x", 20, b, letter ? 21 : blank ? Edges.NONE : 20);
            faultWith(ROAD + "c11".repeat(8) + " x", 36, b, blank ? Edges.NONE : 36);
        }
        fault(ROAD + "c11".repeat(8) + "    c11", 39);
        fault(ROAD + "c11".repeat(8) + "c", 35);
        e.says(Edges.TERMS, "A FAULT is the first place at which it can't go on so");
        fault(ROAD + "c1xc11xc11", 13);
        fault("R12x", 0);
        kinds();
    }

    private void kinds() {
        e.says(Edges.TERMS, "KINDS of SPOKES and letters: 0 CLEFT (c, 99), 1 SAWN (s, 115; a CLEFT one), "
            + "2 ELM (e, 101; a CLEFT one), 3 GREASED (g, 103; an ELM one), 4 IRON (i, 105; a CLEFT one), "
            + "5 RUSTED (u, 117; an IRON one).");
        int[] letters = {99, 115, 101, 103, 105, 117};
        WheelWeeks x = Due.wheel(ROAD + "c11s23e35g47i59u60");
        for (int i = 0; i < 6; i++) {
            e.tells(x, "spoke(" + i + ", 0)", i);
            e.is("letter " + i, "csegiu".charAt(i), letters[i]);
        }
    }

    private void ends() {
        e.says(Edges.TERMS, "the TEXT's size, if its end comes too early, or there are less than 3 SPOKES, or blanks alone)");
        String whole = " r1234567860 c11s29 e90g55";
        for (int n = 0; n <= whole.length(); n++) {
            fault(whole.substring(0, n), n == 23 || n == 26 ? Edges.NONE : n);
            // the same at the end of the longest TEXT
            fault(" ".repeat(60 - n) + whole.substring(0, n), n == 23 || n == 26 ? Edges.NONE : 60);
        }
        for (int n = 0; n <= 60; n++) {
            WheelWeeks x = new WheelWeeks();
            x.text(2, n);
            e.is("fault of " + n + " blanks", x.fault(2), n);
        }
        fault(ROAD + "c11c11" + " ".repeat(43), 60);
        // what stood in an older, longer TEXT is no more there
        WheelWeeks x = new WheelWeeks();
        Due.write(x, 0, ROAD + "c11c11c11");
        Due.write(x, 0, ROAD + "c11c11");
        e.is(x, "fault(0)", 17);
    }

    private void fault() {
        WheelWeeks x = new WheelWeeks();
        e.says(10, "A FAULT of a TEXT; NONE: there is none. BAD; NOTHING.");
        e.refuses(x, Edges.BAD, "fault(-1)", "fault(4)", "fault(MIN)", "fault(MAX)");
        e.finds(x, Edges.NOTHING, "fault(0)", "fault(3)");
        Due.write(x, 3, ROAD + SPOKES);
        Due.write(x, 0, ROAD + "c11");
        long digest = x.digest();
        e.none(x, "fault(3)");
        e.is(x, "fault(0)", 14);
        e.is("digest()", x.digest(), digest);
        e.is(x, "count(0)", 0);
    }

    private void wheel() {
        e.says(11, "A WHEEL by a TEXT (anew: as told at first, no DEEDS; kept WHEELS go): how many SPOKES.");
        for (int t = 0; t <= 3; t++) {
            WheelWeeks x = new WheelWeeks();
            Due.write(x, t, ROAD + SPOKES);
            e.is(x, "wheel(" + t + ")", 3);
            Due.write(x, t, ROAD + SPOKES + "g38i47u56c65s74");
            e.is(x, "wheel(" + t + ")", 8);
            e.counts(x, 8, 0, 0, 0, 255, 0, 0, 60, 0, 1, 0, 37, 2);
        }
    }

    private void wheelAnew() {
        e.says(Edges.TERMS, "All SPOKES are there at first, no WEAR; the WHEEL stands on SPOKE 0, on RUT 0, "
            + "the WEATHER is wet.");
        WheelWeeks x = Due.wheel("r1111111142c99c99c99c99");
        e.counts(x, 4, 0, 0, 0, 15, 0, 0, 42, 0, 1, 0, 36, 0);
        e.wears(x, 0, 0, 0, 0);
        e.says(11, "(anew: as told at first, no DEEDS; kept WHEELS go)");
        e.run(x, "weather() step() step() step() step() step() knock(0) knock(3) keep(0) keep(1) keep(2)");
        e.counts(x, 4, 5, 8, 1, 6, 1, 1, 42, 0, 1, 3, 18, 0);
        e.is(x, "wheel(0)", 4);
        e.counts(x, 4, 0, 0, 0, 15, 0, 0, 42, 0, 1, 0, 36, 0);
        e.wears(x, 0, 0, 0, 0);
        e.finds(x, Edges.NOTHING, "on(0)", "on(1)", "on(2)");
        e.is(x, "undo(0)", 0);
        e.refuses(x, Edges.BAD, "undo(1)");
        // from eight SPOKES to three, and none is left of the other five
        Due.write(x, 1, "r9999999905i11i11i11i11i11i11i11i11");
        Due.write(x, 2, "r1111111142c92c92c92");
        e.is(x, "wheel(1)", 8);
        e.run(x, "step()");
        e.is(x, "wheel(2)", 3);
        e.counts(x, 3, 0, 0, 0, 7, 0, 0, 42, 0, 3, 0, 27, 0);
    }

    private void wheelRefused() {
        WheelWeeks x = new WheelWeeks();
        e.says(11, "BAD; NOTHING; STATE: a FAULT. (STATE behind NOTHING.)");
        e.refuses(x, Edges.BAD, "wheel(-1)", "wheel(4)", "wheel(MIN)", "wheel(MAX)");
        e.finds(x, Edges.NOTHING, "wheel(0)", "wheel(3)");
        x.text(0, 0);
        x.text(1, 60);
        Due.write(x, 2, ROAD + "c11c11");
        Due.write(x, 3, ROAD + "c11".repeat(9));
        e.refuses(x, Edges.STATE, "wheel(0)", "wheel(1)", "wheel(2)", "wheel(3)");
        e.is(x, "count(0)", 0);
        Due.write(x, 0, "r0000000042c99c99c99c99");
        e.run(x, "wheel(0) step() weather() keep(1) knock(2)");
        e.refuses(x, Edges.STATE, "wheel(1)", "wheel(2)", "wheel(3)");
        e.counts(x, 4, 1, 3, 1, 11, 1, 0, 42, 0, 4, 1, 27, 0);
        e.is(x, "on(1)", 2);
        e.is(x, "undo(0)", 2);
    }

    private static String with(String text, int i, char sign) {
        return text.substring(0, i) + sign + text.substring(i + 1);
    }

    private void fault(String text, int want) {
        WheelWeeks x = new WheelWeeks();
        Due.write(x, 3, text);
        faultIs(x, "'" + text + "'", want);
    }

    private void faultWith(String text, int i, int b, int want) {
        WheelWeeks x = new WheelWeeks();
        Due.write(x, 3, text);
        x.put(3, i, b);
        faultIs(x, "'" + text + "' with byte " + b + " at " + i, want);
    }

    private void faultIs(WheelWeeks x, String told, int want) {
        e.is("fault of " + told, x.fault(3), want);
        int wheel = x.wheel(3);
        e.is("wheel of " + told, wheel >= 3 && wheel <= 8 ? Edges.NONE : wheel, want == Edges.NONE ? want : Edges.STATE);
    }
}

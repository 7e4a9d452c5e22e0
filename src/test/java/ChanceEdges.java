/** The boundary cases of promises 33 to 36, 38, 39: by turns, chances, means, LOTS. */
final class ChanceEdges {
    private static final String FLAT = "r0000000000c11c11c11c11";
    private static final String EIGHT = "c11c11c11c11c11c11c11c11";
    private final Edges e;

    ChanceEdges(Edges e) {
        this.e = e;
    }

    void run() {
        duel();
        duelOrNone();
        odds();
        oddsOfTwelve();
        lowest();
        mid();
        told();
        lots();
        lotsByNumber();
        lotsOver();
        lotsRefused();
    }

    private void duel() {
        e.says(33, "By n (0 .. 4) turns in all");
        duels(Due.wheel(FLAT), 0, 3, 0, 3, 0);
        duels(Due.wheel("r0000000000c11c11c11"), 0, 4, 0, 4, 0);
        // behind 12 STEPS SPOKES 0 to 3 of eight were twice in turn
        duels(Due.wheel("r0000000000" + EIGHT), 0, 2, 0, 2, 0);
        e.says(33, "how often it LIMPS in 12 STEPS then (as in turned()), the first wanting it much, the second little.");
        // RUTS 3 and 11; RUT 4, and 12 no more
        e.is(Due.wheel("r0009000000" + EIGHT), "duel(0)", 2);
        e.is(Due.wheel("r0000900000" + EIGHT), "duel(0)", 1);
        WheelWeeks over = Due.wheel(FLAT);
        e.run(over, "knock(0) knock(1)");
        e.is(over, "duel(0)", 12);
        e.says(33, "BAD; STATE: no SPOKES.");
        WheelWeeks none = new WheelWeeks();
        for (WheelWeeks x : new WheelWeeks[] {none, over}) {
            e.refuses(x, Edges.BAD, "duel(-1)", "duel(5)", "duel(MIN)", "duel(MAX)");
        }
        e.refuses(none, Edges.STATE, "duel(0)", "duel(4)");
    }

    private void duels(WheelWeeks x, int... wanted) {
        for (int n = 0; n < wanted.length; n++) {
            e.is(x, "duel(" + n + ")", wanted[n]);
        }
    }

    private void duelOrNone() {
        e.says(33, "a carter knocks out a SPOKE that is there, or none, then a wright puts in one that is gone, or none");
        // none is there: the carter knocks out none; one put in is not enough, two (by n = 4) are of three
        WheelWeeks three = Due.wheel("r0000000000c11c11c11");
        e.run(three, "knock(0) knock(1) knock(2)");
        duels(three, 12, 12, 12, 12, 12);
        e.run(three, "mend(0)");
        duels(three, 12, 12, 12, 12, 12);
        // SPOKES 1 and 2 are gone: one is put in, SPOKE 1 or 2 LIMPS 3 times
        WheelWeeks four = Due.wheel(FLAT);
        e.run(four, "knock(1)");
        duels(four, 3, 12, 3, 12, 3);
        // SPOKE 0 is too short, so it LIMPS anyway: the carter knocks out another one
        WheelWeeks other = Due.wheel("r9000900000c11c11c11c11");
        duels(other, 3, 6, 3, 6, 3);
        e.run(other, "knock(2)");
        duels(other, 6, 12, 6, 12, 6);
        // all are worn: what the carter knocked out would be put in anew, so he knocks out none
        WheelWeeks worn = Due.wheel("r1111111100c92c92c92");
        e.run(worn, "weather()");
        e.runTimes(worn, 12, "step()");
        duels(worn, 12, 12, 12);
        e.run(worn, "knock(0)");
        duels(worn, 12, 12, 11);
        // SPOKE 0 is anew, and doesn't LIMP once, unless the carter knocks it out
        e.run(worn, "mend(0)");
        duels(worn, 11, 12, 11);
    }

    private void odds() {
        e.says(34, "Chances that it LIMPS v (0 .. 20) times or less in 12 STEPS (as in turned()), "
            + "if each SPOKE that is there is knocked out now by p (0 .. 12) of 12, each by itself: 1.");
        WheelWeeks x = Due.wheel(FLAT);
        // none gone: 0, one: 3, two that are not next to one another: 6, else OVER: 12
        e.share(x, "odds(0, 6)", 1, 16);
        e.share(x, "odds(2, 6)", 1, 16);
        e.share(x, "odds(3, 6)", 5, 16);
        e.share(x, "odds(5, 6)", 5, 16);
        e.share(x, "odds(6, 6)", 7, 16);
        e.share(x, "odds(11, 6)", 7, 16);
        e.share(x, "odds(12, 6)", 1, 1);
        e.share(x, "odds(20, 6)", 1, 1);
        e.share(x, "odds(0, 0)", 1, 1);
        e.share(x, "odds(11, 12)", 0, 1);
        e.share(x, "odds(20, 12)", 1, 1);
        // those that are gone are not knocked out
        e.run(x, "knock(0)");
        e.share(x, "odds(2, 0)", 0, 1);
        e.share(x, "odds(3, 0)", 1, 1);
        e.share(x, "odds(3, 6)", 1, 8);
        e.run(x, "knock(1) knock(2) knock(3)");
        e.share(x, "odds(11, 5)", 0, 1);
        e.share(x, "odds(12, 5)", 1, 1);
        e.says(34, "BAD; STATE: no SPOKES.");
        WheelWeeks none = new WheelWeeks();
        for (WheelWeeks y : new WheelWeeks[] {none, x}) {
            e.refuses(y, Edges.BAD, "odds(-1, 0)", "odds(21, 0)", "odds(0, -1)", "odds(0, 13)", "odds(21, 13)");
            e.refuses(y, Edges.BAD, "odds(MIN, 0)", "odds(MAX, 0)", "odds(0, MIN)", "odds(0, MAX)");
        }
        e.refuses(none, Edges.STATE, "odds(0, 0)", "odds(20, 12)");
    }

    private void oddsOfTwelve() {
        e.says(34, "in 12 STEPS (as in turned())");
        WheelWeeks two = Due.wheel("r0009000000" + EIGHT);
        e.share(two, "odds(1, 0)", 0, 1);
        e.share(two, "odds(2, 0)", 1, 1);
        e.share(two, "mid(0)", 2, 1);
        WheelWeeks one = Due.wheel("r0000900000" + EIGHT);
        e.share(one, "odds(0, 0)", 0, 1);
        e.share(one, "odds(1, 0)", 1, 1);
        e.share(one, "mid(0)", 1, 1);
        // worn out: WEAR is as it is, and one put in anew, 0 or 1, doesn't LIMP once ahead of OVER
        WheelWeeks worn = Due.wheel("r1111111100c92c92c92");
        e.run(worn, "weather()");
        e.runTimes(worn, 12, "step()");
        e.share(worn, "mid(0)", 12, 1);
        e.share(worn, "odds(11, 0)", 0, 1);
        for (int i = 0; i < 2; i++) {
            e.run(worn, "mend(" + i + ")");
            e.share(worn, "mid(0)", 11, 1);
            e.share(worn, "odds(11, 0)", 1, 1);
            e.share(worn, "odds(10, 0)", 0, 1);
            e.run(worn, "undo(13)");
        }
        WheelWeeks over = Due.wheel("r9999999900c91c91c99c99");
        e.share(over, "mid(0)", 12, 1);
        e.share(over, "odds(11, 0)", 0, 1);
    }

    private void lowest() {
        e.says(Edges.TERMS, "Chances, means are told by upper(), lower(), in lowest terms, the lower number above 0 (0 by 1).");
        WheelWeeks eight = Due.wheel("r0000000000" + EIGHT);
        e.share(eight, "odds(0, 1)", 214358881, 429981696);
        e.share(eight, "odds(0, 11)", 1, 429981696);
        e.share(eight, "odds(0, 3)", 6561, 65536);
        e.share(eight, "odds(0, 6)", 1, 256);
        e.share(eight, "odds(0, 12)", 0, 1);
        e.share(eight, "mid(0)", 0, 1);
        e.share(eight, "mid(12)", 12, 1);
        WheelWeeks none = new WheelWeeks();
        e.is("upper()", none.upper(), 0);
        e.is("lower()", none.lower(), 1);
    }

    private void mid() {
        e.says(35, "The mean of how often it does: 1.");
        WheelWeeks x = Due.wheel(FLAT);
        e.share(x, "mid(0)", 0, 1);
        // 4 sets at 3, 2 at 6, 9 at 12, of 16
        e.share(x, "mid(6)", 33, 4);
        e.share(x, "mid(12)", 12, 1);
        e.run(x, "knock(0) knock(1) knock(2) knock(3)");
        e.share(x, "mid(0)", 12, 1);
        e.share(x, "mid(5)", 12, 1);
        e.says(35, "BAD; STATE: no SPOKES.");
        WheelWeeks none = new WheelWeeks();
        for (WheelWeeks y : new WheelWeeks[] {none, x}) {
            e.refuses(y, Edges.BAD, "mid(-1)", "mid(13)", "mid(MIN)", "mid(MAX)");
        }
        e.refuses(none, Edges.STATE, "mid(0)", "mid(12)");
    }

    private void told() {
        WheelWeeks x = Due.wheel(FLAT);
        e.says(38, "The upper number that was told last; 0 before.");
        e.is(x, "upper()", 0);
        e.says(39, "Its lower number; 1 before.");
        e.is(x, "lower()", 1);
        e.run(x, "odds(3, 6)");
        // means of ROWS, refusals, other calls tell none
        e.run(x, "row(0, 3) mean(0) goes(5) turned() duel(2) step() wheel(0)");
        e.refuses(x, Edges.BAD, "odds(0, 13)", "mid(13)");
        e.is(x, "lower()", 16);
        e.says(38, "The upper number that was told last");
        e.is(x, "upper()", 5);
        e.run(x, "mid(6)");
        e.is(x, "upper()", 33);
        e.is(x, "lower()", 4);
    }

    private void lots() {
        e.says(36, "n (1 .. 20) DEEDS truly by LOTS of a seed");
        WheelWeeks x = Due.wheel(FLAT);
        e.run(x, "lots(1, 1)");
        e.is(x, "count(2)", 1);
        e.run(x, "lots(20, 1)");
        e.is(x, "count(2)", 21);
        e.run(x, "lots(19, 2147483646)");
        e.is(x, "count(2)", 40);
        e.is(x, "undo(1)", 39);
    }

    private void lotsByNumber() {
        e.says(36, "a number comes from the one ahead by 48271 times it modulo 2147483647, "
            + "the first from the seed (1 .. 2147483646)");
        e.says(36, "if it modulo 6 is 0, the WEATHER turns");
        // 2147483647 less 48271 is 2147435376, 6 times 357905896
        WheelWeeks x = Due.wheel(FLAT);
        e.is(x, "lots(1, 2147483646)", 0);
        e.counts(x, 4, 0, 1, 0, 15, 1, 0);
        e.says(36, "if it is 1, the SPOKE that it by 8, cut, modulo how many there are is put in anew");
        // 48271 is 1 more than 6 times 8045; by 8 it is 6033, which is 1 more than 4 times 1508, 0 more than 3 times 2011
        WheelWeeks four = Due.wheel(FLAT);
        e.run(four, "knock(0) knock(1) knock(2) knock(3)");
        e.is(four, "lots(1, 1)", 0);
        e.is(four, "count(4)", 2);
        WheelWeeks three = Due.wheel("r0000000000c11c11c11");
        e.run(three, "knock(0)");
        e.is(three, "lots(1, 1)", 0);
        e.is(three, "count(4)", 7);
        e.says(36, "else there is a STEP, or, if it is OVER, SOAKING: on which RUT it is then.");
        // 2, 3, 4, 5 times 48271 leave 2, 3, 4, 5 over by 6
        for (int seed = 2; seed <= 5; seed++) {
            WheelWeeks step = Due.wheel(FLAT);
            e.run(step, "weather()");
            e.is(step, "lots(1, " + seed + ")", 1);
            e.counts(step, 4, 1, 2, 1, 15, 1, 0);
            e.wears(step, 1, 0, 0, 0);
        }
    }

    private void lotsOver() {
        e.says(36, "or, if it is OVER, SOAKING");
        WheelWeeks x = Due.wheel(FLAT);
        e.run(x, "weather()");
        e.runTimes(x, 8, "step()");
        e.run(x, "knock(0) knock(3)");
        e.wears(x, 2, 2, 2, 2);
        e.is(x, "lots(1, 2)", 8);
        e.wears(x, 1, 1, 1, 1);
        e.is(x, "count(2)", 12);
    }

    private void lotsRefused() {
        e.says(36, "BAD; STATE: no SPOKES; FULL: with n more there would be more than 40 DEEDS. (FULL last.)");
        String[] bad = {"lots(0, 1)", "lots(21, 1)", "lots(-1, 1)", "lots(1, 0)", "lots(1, -1)", "lots(1, MAX)",
            "lots(1, MIN)", "lots(MIN, 1)", "lots(MAX, 1)", "lots(0, 0)"};
        WheelWeeks none = new WheelWeeks();
        e.refuses(none, Edges.BAD, bad);
        e.refuses(none, Edges.STATE, "lots(1, 1)", "lots(20, 2147483646)");
        WheelWeeks x = Due.wheel(FLAT);
        e.refuses(x, Edges.BAD, bad);
        e.runTimes(x, 21, "soak()");
        e.refuses(x, Edges.FULL, "lots(20, 1)");
        e.refuses(x, Edges.BAD, "lots(21, 1)");
        e.run(x, "lots(18, 1)");
        e.refuses(x, Edges.FULL, "lots(2, 1)", "lots(20, 1)");
        e.run(x, "lots(1, 1)");
        e.is(x, "count(2)", 40);
        e.refuses(x, Edges.FULL, "lots(1, 1)");
        e.refuses(x, Edges.BAD, bad);
        WheelWeeks twice = Due.wheel(FLAT);
        e.run(twice, "lots(20, 3) lots(20, 4)");
        e.is(twice, "count(2)", 40);
    }
}

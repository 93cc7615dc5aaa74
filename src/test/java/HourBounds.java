import java.math.BigInteger;

/** Terms, II: what an hour brings, the rain, the rows that are kept, the acts. */
final class HourBounds extends Answers {
    /** Places in the image of ONE. */
    private static final int SAW = 13;
    private static final int SAW_TODAY = 14;

    private HourBounds() {
    }

    @Says("It is HOUR 0 of DAY 0 at first.")
    static void firstHour() {
        Counted x = new Counted();
        due("has(2)", x.has(2), 0);
        due("has(3)", x.has(3), 0);
        x.hours(49);
        due("zoo()", x.read(ONE), 2);
        due("has(2) in the next zoo", x.has(2), 0);
        due("has(3) in the next zoo", x.has(3), 0);
    }

    // ---- who is liked, and asked for

    @Says("How a BEAST LIKES a GUEST is the SUM of likes, 0 .. 999 (below is 0, above 999;")
    static void likedFromTo() {
        likes("0", 0);
        likes("1", 1);
        likes("0-1", 0);
        likes("0-9999*9999", 0);
        likes("998", 998);
        likes("999", 999);
        likes("1000", 999);
        likes("9999*9999", 999);
    }

    @Says("without: what suits, divided by 1 and how often it SAW him).")
    static void likedWithout() {
        Counted x = with("beast a wakes 0 to 23 at 1;taste a 9 9 8;guest g 5 3 1 comes 0 to 23;keeps 9;");
        // 80 suits.
        int[] want = {80, 40, 26, 20, 16, 13, 11, 10};
        for (int seen = 0; seen < want.length; seen++) {
            due("between(0, 0, 1), seen " + seen + " times", x.between(0, 0, 1), want[seen]);
            x.hours(1);
        }
        due("what suits", x.between(0, 0, 0), 80);
        x = with("beast a wakes 0 to 23 at 1;taste a 9 9 9;guest g 9 9 9 comes 0 to 23;guest h 0 0 0 comes 0 to 23;");
        due("243 suit", x.between(0, 0, 1), 243);
        due("0 suit", x.between(0, 1, 1), 0);
        x = with(ONE);
        x.become(5, 9, 6, 9, 7, 9, 10, 9, 11, 9, 12, 9, SAW, 99);
        due("between(0, 0, 1), seen 99 times", x.between(0, 0, 1), 2);
    }

    @Says("In an HOUR, by numbers, each BEAST that is awake ASKS for the GUEST whom it likes most,")
    static void byNumbers() {
        Counted x = with("beast a wakes 1 to 23 at 1;beast b wakes 0 to 23 at 1;beast c wakes 0 to 23 at 1;taste c 9 9 9;"
            + "guest g 1 1 1 comes 0 to 23;guest h 2 1 1 comes 0 to 23;guest i 1 3 1 comes 0 to 23;likes suits;keeps 9;");
        row("asks(, 0)", b -> x.asks(b, 0), NONE, 2, 1);
        row("asks(, 1)", b -> x.asks(b, 1), 2, 1, 0);
        x.hours(2);
        int[][] rows = {{0, 0, 1, 2}, {0, 0, 2, 1}, {0, 1, 0, 2}, {0, 1, 1, 1}, {0, 1, 2, 0}};
        due("has(8)", x.has(8), 5);
        for (int k = 0; k < 5; k++) {
            int r = k;
            row("kept(" + k + ")", w -> x.kept(r, w), rows[k]);
        }
    }

    @Says("if above 0,")
    static void likedAboveNothing() {
        Counted x = with("beast a wakes 0 to 23 at 1;guest g 1 0 0 comes 0 to 23;guest h 0 0 0 comes 0 to 23;likes looks;");
        due("asks(0, 0)", x.asks(0, 0), 0);
        x.change(0, 0, 0, 0);
        due("asks(0, 0) with none liked", x.asks(0, 0), NONE);
        due("hours(1)", x.hours(1), 0);
        due("asks(0, 0) by a SUM below 0", with(ONE + "likes 0-5;").asks(0, 0), NONE);
        due("asks(0, 0) by 1", with(ONE + "likes 1;").asks(0, 0), 0);
    }

    @Says("of like ones the first, of those who")
    static void likeOnes() {
        Counted x = with(beasts(2) + guests(8) + "likes if(looks=9,5,4);");
        due("asks(0, 0)", x.asks(0, 0), 0);
        due("asks(1, 0)", x.asks(1, 0), 1);
        x.change(7, 9, 1, 1);
        x.change(5, 9, 1, 1);
        due("asks(0, 0)", x.asks(0, 0), 5);
        due("asks(1, 0)", x.asks(1, 0), 7);
        // Both above 999 are alike.
        due("asks(0, 0)", with(TWO + "taste a 9 0 0;likes 1000+suits;").asks(0, 0), 0);
        x = with("beast a wakes 0 to 23 at 1;guest g 1 1 1 comes 0 to 23;guest h 9 9 9 comes 0 to 23;likes 1000+suits;");
        due("asks(0, 0)", x.asks(0, 0), 0);
    }

    @Says("are there in that HOUR,")
    static void there() {
        Counted x = with("beast a wakes 0 to 23 at 1;guest g 1 1 1 comes 2 to 4;likes 5;keeps 9;");
        int[] want = {NONE, NONE, 0, 0, 0, NONE};
        for (int hour = 0; hour < 6; hour++) {
            due("asks(0, " + hour + ")", x.asks(0, hour), want[hour]);
        }
        due("asks(0, 26), the next day", x.asks(0, 26), 0);
        due("asks(0, 23)", with("beast a wakes 0 to 23 at 1;guest g 1 1 1 comes 23 to 23;").asks(0, 23), 0);
    }

    /** a is bored of g in hour 0, b sees him in hour 1 and keeps him in hour 2. */
    private static Counted boredThenKept() {
        return with("beast a wakes 0 to 23 at 1;beast b wakes 1 to 23 at 1;taste b 2 2 2;guest g 1 1 1 comes 0 to 23;"
            + "likes suits-saw*2;bores 2;keeps 2;");
    }

    @Says("are not SENT BACK by it,")
    static void notSentBack() {
        Counted x = boredThenKept();
        due("asks(0, 0)", x.asks(0, 0), 0);
        x.hours(1);
        due("guest(0, 6)", x.guest(0, 6), 1);
        due("asks(0, 0) of whom it sent back", x.asks(0, 0), NONE);
        due("asks(1, 0) of whom the other one sent back", x.asks(1, 0), 0);
    }

    @Says("are not SENT BACK by it, not KEPT,")
    static void notKept() {
        Counted x = boredThenKept();
        x.hours(2);
        due("asks(1, 0) of whom it may yet see", x.asks(1, 0), 0);
        x.hours(1);
        due("guest(0, 7)", x.guest(0, 7), 1);
        due("asks(1, 0) of whom it has kept", x.asks(1, 0), NONE);
        x = with(beasts(2) + "guest g 1 1 1 comes 0 to 23;likes 5;keeps 2;");
        x.hours(2);
        due("guest(0, 7)", x.guest(0, 7), 0);
        due("asks(0, 0)", x.asks(0, 0), NONE);
        due("asks(1, 0) of whom the other one has kept", x.asks(1, 0), NONE);
    }

    @Says("not asked for in this HOUR so far,")
    static void notAskedFor() {
        Counted x = with(beasts(3) + guests(2) + "likes 5;");
        row("asks(, 0)", b -> x.asks(b, 0), 0, 1, NONE);
        due("hours(1)", x.hours(1), 2);
        row("asks(, 0) in the next hour", b -> x.asks(b, 0), 0, 1, NONE);
        // Who refuses has been asked for.
        Counted y = with(beasts(2) + guests(1) + "fears ga ba;");
        row("asks(, 0) of who refuses", b -> y.asks(b, 0), 0, NONE);
        due("hours(1)", y.hours(1), 1);
        // And so has he of whom one is bored.
        due("hours(1)", with(beasts(2) + guests(1) + "bores 99;").hours(1), 1);
    }

    @Says("and for whom the TEST of may holds (without it always),")
    static void mayHolds() {
        due("asks(0, 0) without", with(ONE).asks(0, 0), 0);
        due("asks(0, 0) by all", with(ONE + "may all;").asks(0, 0), 0);
        due("asks(0, 0) by not all", with(ONE + "may not all;").asks(0, 0), NONE);
        // Whom it likes less, if the test does not hold for whom it likes most.
        Counted x = with("beast a wakes 0 to 23 at 1;guest g 1 1 1 comes 0 to 23;guest h 2 2 2 comes 0 to 23;may looks<2 or hour>0;");
        due("asks(0, 0)", x.asks(0, 0), 0);
        x.hours(1);
        due("asks(0, 0) in hour 1", x.asks(0, 0), 1);
        // Without it again.
        x.read(ONE + "may not all;");
        x.read(ONE);
        due("asks(0, 0) without", x.asks(0, 0), 0);
    }

    @Says("as long as an usher is free (each ASKING takes one for this HOUR).")
    static void ushers() {
        int[] first = {NONE, NONE, NONE};
        for (int ushers = 0; ushers <= 4; ushers++) {
            Counted x = with(beasts(3) + guests(3) + "ushers " + ushers + ";keeps 9;likes 5;");
            if (ushers >= 1 && ushers <= 3) {
                first[ushers - 1] = ushers - 1;
            }
            row("asks(, 0) by " + ushers, b -> x.asks(b, 0), first);
            due("hours(2) by " + ushers, x.hours(2), 2 * Math.min(3, ushers));
        }
        // Who asks for nobody takes none, who is refused takes one.
        Counted x = with("beast a wakes 1 to 23 at 1;" + beasts(3) + guests(2) + "ushers 1;fears ga ba;");
        row("asks(, 0)", b -> x.asks(b, 0), NONE, 0, NONE, NONE);
    }

    // ---- what becomes of an asking

    @Says("Who fears it REFUSES, and pays the fee.")
    static void refuses() {
        Counted x = with(beasts(2) + guests(1) + "fears ga ba;fee 7;bores 99;keeps 2;");
        due("hours(1)", x.hours(1), 1);
        due("has(5)", x.has(5), 7);
        due("kept(0, 4)", x.kept(0, 4), 0);
        due("between(0, 0, 2)", x.between(0, 0, 2), 0);
        due("between(0, 0, 3)", x.between(0, 0, 3), 0);
        due("guest(0, 6)", x.guest(0, 6), 0);
        due("hours(8)", x.hours(8), 8);
        due("has(5)", x.has(5), 63);
        due("guest(0, 7)", x.guest(0, 7), NONE);
        // Who fears another one pays nothing.
        x = with(beasts(2) + guests(1) + "fears ga bb;fee 7;");
        due("hours(1)", x.hours(1), 1);
        due("has(5)", x.has(5), 0);
        due("between(0, 0, 2)", x.between(0, 0, 2), 1);
    }

    @Says("Else it SEES him once more (99 at most):")
    static void sees() {
        Counted x = with(ONE + "likes 5;keeps 9;");
        x.hours(1);
        due("between(0, 0, 2)", x.between(0, 0, 2), 1);
        due("between(0, 0, 3)", x.between(0, 0, 3), 1);
        x.become(SAW, 98, SAW_TODAY, 0);
        due("hours(1)", x.hours(1), 1);
        due("between(0, 0, 2) from 98", x.between(0, 0, 2), 99);
        due("hours(1)", x.hours(1), 1);
        due("between(0, 0, 2) from 99", x.between(0, 0, 2), 99);
        due("kept(1, 4)", x.kept(1, 4), 1);
        x.become(SAW, 99, SAW_TODAY, 99);
        due("hours(1)", x.hours(1), 1);
        due("between(0, 0, 2) from 99", x.between(0, 0, 2), 99);
        due("between(0, 0, 3) from 99", x.between(0, 0, 3), 99);
    }

    @Says("if it likes him less than bores then, it is BORED and he is SENT BACK by it until the DAY is over;")
    static void bored() {
        Counted x = with(ONE + "likes 5-saw;bores 4;keeps 9;");
        x.hours(1);
        due("kept(0, 4), liked 4 then", x.kept(0, 4), 1);
        due("guest(0, 6)", x.guest(0, 6), 0);
        x.hours(1);
        due("kept(1, 4), liked 3 then", x.kept(1, 4), 2);
        due("between(0, 0, 2)", x.between(0, 0, 2), 2);
        for (int hour = 2; hour < 24; hour++) {
            due("guest(0, 6) in hour " + hour, x.guest(0, 6), 1);
            due("hours(1)", x.hours(1), 0);
        }
        due("guest(0, 6) on the next day", x.guest(0, 6), 0);
        due("hours(1)", x.hours(1), 1);
        due("kept(2, 4), liked 2 then", x.kept(2, 4), 2);
        // Bored in the last hour of a day: over at once.
        x = with("beast a wakes 23 to 23 at 1;guest g 1 1 1 comes 0 to 23;bores 99;");
        x.hours(24);
        due("kept(0, 4)", x.kept(0, 4), 2);
        due("guest(0, 6)", x.guest(0, 6), 0);
        // By bores 0 nobody is bored of.
        x = with(ONE + "likes 1-saw*9;bores 0;");
        x.hours(1);
        due("kept(0, 4) by bores 0", x.kept(0, 4), 1);
        // By more than one, as bits.
        x = with("beast a wakes 0 to 0 at 1;beast b wakes 1 to 1 at 1;beast c wakes 2 to 2 at 1;guest g 1 1 1 comes 0 to 23;bores 99;");
        int[] bits = {1, 3, 7};
        for (int want : bits) {
            x.hours(1);
            due("guest(0, 6)", x.guest(0, 6), want);
        }
    }

    @Says("else, if it has seen him at least as often as keeps on this DAY, he is KEPT by it until the DAY is over.")
    static void keeps() {
        Counted x = with(ONE + "likes 5;keeps 3;");
        int[] outcomes = {1, 1, 3};
        for (int k = 0; k < 3; k++) {
            due("guest(0, 7) ahead of row " + k, x.guest(0, 7), NONE);
            due("hours(1)", x.hours(1), 1);
            due("kept(" + k + ", 4)", x.kept(k, 4), outcomes[k]);
        }
        for (int hour = 3; hour < 24; hour++) {
            due("guest(0, 7) in hour " + hour, x.guest(0, 7), 0);
            due("hours(1)", x.hours(1), 0);
        }
        due("guest(0, 7) on the next day", x.guest(0, 7), NONE);
        // Seen three times in all, not on this day.
        for (int k = 3; k < 6; k++) {
            due("hours(1)", x.hours(1), 1);
            due("kept(" + k + ", 4)", x.kept(k, 4), outcomes[k - 3]);
        }
        // More often than keeps.
        x = with(ONE + "likes 5;keeps 3;");
        x.become(SAW, 7, SAW_TODAY, 7);
        x.hours(1);
        due("kept(0, 4), seen 8 times", x.kept(0, 4), 3);
        // Bored of him it keeps him not.
        x = with(ONE + "likes 3-saw;bores 2;keeps 2;");
        x.hours(2);
        due("kept(1, 4)", x.kept(1, 4), 2);
        due("guest(0, 7)", x.guest(0, 7), NONE);
        // What the others saw does not count.
        x = with("beast a wakes 0 to 0 at 1;beast b wakes 1 to 1 at 1;beast c wakes 2 to 3 at 1;guest g 1 1 1 comes 0 to 23;"
            + "likes 5;keeps 2;");
        x.hours(3);
        due("has(7)", x.has(7), 0);
        x.hours(1);
        due("guest(0, 7)", x.guest(0, 7), 2);
    }

    // ---- days

    @Says("Behind HOUR 23 it is HOUR 0 of the next DAY (999 at most),")
    static void nextDay() {
        Counted x = with(ONE);
        x.hours(23);
        due("has(2)", x.has(2), 0);
        due("has(3)", x.has(3), 23);
        x.hours(1);
        due("has(2)", x.has(2), 1);
        due("has(3)", x.has(3), 0);
        x.chance(24);
        due("has(2)", x.has(2), 2);
        due("has(3)", x.has(3), 0);
        x.toMoment(998, 23);
        due("hours(1)", x.hours(1) >= 0, true);
        due("has(2)", x.has(2), 999);
        due("has(3)", x.has(3), 0);
        due("hours(23)", x.hours(23) >= 0, true);
        due("has(3)", x.has(3), 23);
        due("hours(1) behind the last one", x.hours(1), NONE);
        due("chance(1) behind the last one", x.chance(1), NONE);
        due("has(2)", x.has(2), 999);
        due("has(3)", x.has(3), 23);
    }

    @Says("nobody is SENT BACK or KEPT,")
    static void nobodyTheNextDay() {
        // a sends g back, b keeps h.
        String text = "beast a wakes 0 to 0 at 1;beast b wakes 0 to 2 at 1;guest g 2 1 1 comes 0 to 0;guest h 1 1 1 comes 0 to 23;"
            + "likes if(saw>0 and looks=2,1,5);bores 2;keeps 2;rain 100;";
        for (boolean byChance : new boolean[] {false, true}) {
            Counted x = with(text);
            x.hours(23);
            due("guest(0, 6)", x.guest(0, 6), 1);
            due("guest(1, 7)", x.guest(1, 7), 1);
            due("has(7)", x.has(7), 1);
            due("beast(1, 7)", x.beast(1, 7), 1);
            due("an hour goes by", byChance ? x.chance(1) : x.hours(1) + 1, 1);
            due("guest(0, 6)", x.guest(0, 6), 0);
            due("guest(1, 7)", x.guest(1, 7), NONE);
            due("has(7)", x.has(7), 0);
            due("beast(1, 7)", x.beast(1, 7), NONE);
        }
    }

    @Says("on that DAY none has seen any so far.")
    static void noneSeenSoFar() {
        Counted x = with(TWO + "likes 5;keeps 9;");
        x.hours(23);
        for (int i = 0; i < 4; i++) {
            due("between(" + i / 2 + ", " + i % 2 + ", 3) in hour 23", x.between(i / 2, i % 2, 3), i % 3 == 0 ? 9 : 0);
        }
        x.hours(1);
        for (int i = 0; i < 4; i++) {
            due("between(" + i / 2 + ", " + i % 2 + ", 3) in hour 0", x.between(i / 2, i % 2, 3), 0);
            due("between(" + i / 2 + ", " + i % 2 + ", 2) in hour 0", x.between(i / 2, i % 2, 2), i % 3 == 0 ? 9 : 0);
        }
        x.hours(1);
        due("between(0, 0, 3) in hour 1", x.between(0, 0, 3), 1);
        due("between(0, 0, 2) in hour 1", x.between(0, 0, 2), 10);
    }

    // ---- rain, rows, acts, draws

    private static long next(long seed) {
        return BigInteger.valueOf(1103515245).multiply(BigInteger.valueOf(seed)).add(BigInteger.valueOf(12345))
            .mod(BigInteger.TWO.pow(31)).longValueExact();
    }

    private static int drawn(long seed) {
        return (int) (seed / 64 % 100);
    }

    @Says("BY THE SEED an HOUR begins with a DRAW of 100: below rain nobody is asked for in it.")
    static void rain() {
        int seed = 1;
        for (int i = 0; i < 12; i++) {
            int draw = drawn(next(seed));
            for (int rain = draw; rain <= draw + 1; rain++) {
                Counted x = with(ONE + "likes 5;fears g a;rain " + rain + ";");
                x.seed(seed);
                due("chance(1) by a draw of " + draw + ", rain " + rain, x.chance(1), rain > draw ? 1 : 0);
                due("has(8)", x.has(8), rain > draw ? 0 : 1);
                due("has(5)", x.has(5), rain > draw ? 0 : 5);
                due("has(3)", x.has(3), 1);
                due("has(10)", x.has(10), (int) next(seed));
            }
            seed = (int) next(seed * 7L);
        }
        // One draw an hour, whatever the rain; the hour rained on passes.
        for (int rain : new int[] {0, 50, 100}) {
            Counted x = with(ONE + "likes 5;keeps 9;rain " + rain + ";");
            long last = 1;
            int rained = 0;
            for (int hour = 0; hour < 30; hour++) {
                last = next(last);
                rained += drawn(last) < rain ? 1 : 0;
            }
            due("chance(30) by rain " + rain, x.chance(30), rained);
            due("has(10)", x.has(10), (int) last);
            due("has(2)", x.has(2), 1);
            due("has(3)", x.has(3), 6);
        }
    }

    @Says("KEPT ROWS are of each ASKING: DAY, HOUR, BEAST, GUEST, what became of it (0 refused, 1 seen, 2 sent back, 3 kept);")
    static void rows() {
        Counted x = with("beast a wakes 23 to 23 at 1;beast b wakes 22 to 23 at 1;beast c wakes 23 to 23 at 1;"
            + "guest g 1 1 1 comes 23 to 23;guest h 3 1 1 comes 22 to 23;guest i 2 1 1 comes 23 to 23;guest j 4 1 1 comes 23 to 23;"
            + "fears g a;likes if(looks=4,if(saw=0,1,0),10-looks);keeps 2;");
        x.hours(48);
        // In hour 22 b sees h; in hour 23 a asks for g, b for i, c for h; of j nobody asks as long as there are others.
        int[][] want = {{0, 22, 1, 1, 1}, {0, 23, 0, 0, 0}, {0, 23, 1, 2, 1}, {0, 23, 2, 1, 1}};
        due("has(8)", x.has(8), 8);
        for (int k = 0; k < 8; k++) {
            int r = k;
            int[] w = want[k % 4].clone();
            w[0] = k / 4;
            row("kept(" + k + ")", what -> x.kept(r, what), w);
        }
        Counted y = with(ONE + "likes 5;keeps 2;");
        y.hours(2);
        due("kept(1, 4) of one kept", y.kept(1, 4), 3);
        Counted z = with(ONE + "bores 9;");
        z.hours(1);
        due("kept(0, 4) of one sent back", z.kept(0, 4), 2);
        // What brings no asking keeps no row.
        due("hours(20)", z.hours(20), 0);
        due("has(8)", z.has(8), 1);
    }

    @Says("the last 60 are told.")
    static void sixtyRows() {
        Counted x = with(ONE + "fears g a;");
        x.hours(59);
        due("has(8)", x.has(8), 59);
        due("kept(0, 1)", x.kept(0, 1), 0);
        x.hours(1);
        due("has(8)", x.has(8), 60);
        due("kept(0, 1)", x.kept(0, 1), 0);
        due("kept(59, 1)", x.kept(59, 1), 11);
        x.hours(1);
        due("has(8)", x.has(8), 60);
        due("kept(0, 1)", x.kept(0, 1), 1);
        due("kept(59, 1)", x.kept(59, 1), 12);
        due("kept(60, 1)", x.kept(60, 1), NONE);
        // Round and round.
        x.hours(200);
        for (int k = 0; k < 60; k++) {
            int moment = 201 + k;
            due("kept(" + k + ", 0)", x.kept(k, 0), moment / 24);
            due("kept(" + k + ", 1)", x.kept(k, 1), moment % 24);
        }
    }

    @Says("ACTS: HOURS go by, by the seed; a GUEST changes LOOKS, SMELL, TALK; a BEAST's tastes change; two BEASTS swap what they know "
        + "(how often each SAW each GUEST, in all, and on this DAY).")
    static void acts() {
        Counted x = with(TWO + "keeps 9;likes 5;fears h a;rain 30;");
        due("has(9)", x.has(9), 0);
        x.hours(26);
        due("has(9) behind hours(26)", x.has(9), 1);
        x.chance(5);
        due("has(9) behind chance(5)", x.has(9), 2);
        x.change(0, 3, 3, 3);
        due("has(9) behind change", x.has(9), 3);
        x.train(1, 3, 3, 3);
        due("has(9) behind train", x.has(9), 4);
        int[] known = new int[8];
        for (int i = 0; i < 8; i++) {
            known[i] = x.between(i / 4, i / 2 % 2, 2 + i % 2);
        }
        due("a knows g", known[0] > known[1] && known[1] > 0, true);
        due("b knows h", known[6] > known[7] && known[7] > 0, true);
        due("swap", x.swap(0, 1), true);
        due("has(9) behind swap", x.has(9), 5);
        for (int i = 0; i < 8; i++) {
            due("between " + i + " behind swap", x.between(1 - i / 4, i / 2 % 2, 2 + i % 2), known[i]);
        }
        due("beast(1, 3) stays", x.beast(1, 3), 3);
        due("beast(0, 3) stays", x.beast(0, 3), 1);
        // What is no act.
        x.seed(5);
        x.tell(0, 1);
        x.torn(0, 0);
        x.image();
        x.asks(0, 9);
        x.dress(0, 0, 0);
        x.hours(0);
        x.swap(0, 0);
        due("has(9)", x.has(9), 5);
    }

    @Says("The last 20 can be undone.")
    static void twentyActs() {
        Counted x = with(ONE);
        for (int i = 1; i <= 25; i++) {
            x.change(0, i / 10, i % 10, 5);
            due("has(9) behind act " + i, x.has(9), Math.min(20, i));
        }
        for (int i = 24; i >= 5; i--) {
            due("undo() down to act " + i, x.undo(), true);
            due("guest(0, 0)", x.guest(0, 0), i / 10);
            due("guest(0, 1)", x.guest(0, 1), i % 10);
            due("has(9)", x.has(9), i - 5);
        }
        due("undo() beyond 20", x.undo(), false);
        due("guest(0, 1)", x.guest(0, 1), 5);
        // Twenty more.
        for (int i = 0; i < 20; i++) {
            x.train(0, 9 - i % 2, 9, 9);
        }
        for (int i = 0; i < 20; i++) {
            due("undo()", x.undo(), true);
        }
        due("undo() beyond 20", x.undo(), false);
        due("beast(0, 3)", x.beast(0, 3), 1);
    }

    @Says("A DRAW of m: x (the seed) becomes (1103515245 x + 12345) mod 2 to the 31; floor(x / 64) mod m.")
    static void draws() {
        int[] seeds = {0, 1, 2, 63, 64, 12345, 1 << 30, (1 << 30) - 1, GREATEST - 1, GREATEST, 2096};
        for (int seed : seeds) {
            Counted x = with(ONE + "rain 50;");
            long s = seed;
            x.seed(seed);
            for (int i = 0; i < 10; i++) {
                s = next(s);
                due("chance(1) from " + seed, x.chance(1), drawn(s) < 50 ? 1 : 0);
                due("has(10) from " + seed, x.has(10), (int) s);
            }
        }
    }
}

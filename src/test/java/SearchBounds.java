/** Terms, III: what is looked for, ahead and among all that could be done. */
final class SearchBounds extends Answers {
    private SearchBounds() {
    }

    // ---- ahead

    @Says("AHEAD are HOURS as they come from now on without DRAWS")
    static void ahead() {
        // 3 suits: liked 3, 1, 1, and 0 behind the third asking, which bores.
        Counted x = with(ONE + "rain 100;");
        String before = x.all();
        int[] want = {0, 0, 0, NONE, NONE};
        for (int n = 0; n < want.length; n++) {
            due("asks(0, " + n + ")", x.asks(0, n), want[n]);
        }
        due("alone(0)", x.alone(0), 3);
        due("torn()", x.torn(0, 0, 0, 0, 0, 0), 3);
        due("all behind them", x.all(), before);
        // Without likes on the next day either; with them anew.
        due("asks(0, 24)", x.asks(0, 24), NONE);
        Counted y = with(ONE + "rain 100;likes 5;keeps 2;");
        int[] days = {0, 0, NONE};
        for (int n = 0; n < 3; n++) {
            due("asks(0, " + n + ")", y.asks(0, n), days[n]);
            due("asks(0, " + (24 + n) + ")", y.asks(0, 24 + n), days[n]);
        }
        // From now on: behind two hours.
        x.hours(2);
        due("asks(0, 0)", x.asks(0, 0), 0);
        due("asks(0, 1)", x.asks(0, 1), NONE);
    }

    @Says("(100 at most, not beyond DAY 999).")
    static void hundredHours() {
        Counted x = with(ONE + "fears g a;");
        due("asks(0, 99)", x.asks(0, 99), 0);
        due("asks(0, 100)", x.asks(0, 100), NONE);
        x.toMoment(999, 21);
        due("asks(0, 2)", x.asks(0, 2), 0);
        due("asks(0, 3)", x.asks(0, 3), NONE);
        x.toMoment(999, 23);
        due("asks(0, 0)", x.asks(0, 0), 0);
        due("asks(0, 1)", x.asks(0, 1), NONE);
        x.toMoment(995, 20);
        due("asks(0, 99), day 999, hour 23", x.asks(0, 99), 0);
        x.toMoment(995, 21);
        due("asks(0, 98), day 999, hour 23", x.asks(0, 98), 0);
        due("asks(0, 99) beyond it", x.asks(0, 99), NONE);
    }

    // ---- bringing

    @Says("BRINGING: for each BEAST that is awake now")
    static void bringAwake() {
        Counted x = with("beast a wakes 1 to 2 at 1;beast b wakes 0 to 1 at 1;taste a 9 9 9;" + guests(2));
        row("bring()", b -> x.bring(b), NONE, 0);
        due("bring(NONE)", x.bring(NONE), 3);
        x.hours(1);
        row("bring()", b -> x.bring(b), 0, 1);
        due("bring(NONE)", x.bring(NONE), 27 + 3);
        x.hours(1);
        due("bring(1)", x.bring(1), NONE);
    }

    @Says("a GUEST who is there")
    static void bringThere() {
        Counted x = with("beast a wakes 0 to 23 at 1;guest g 9 9 9 comes 1 to 1;guest h 1 1 1 comes 0 to 0;");
        due("bring(0)", x.bring(0), 1);
        due("bring(NONE)", x.bring(NONE), 3);
        x.hours(1);
        due("bring(0)", x.bring(0), 0);
        x.hours(1);
        due("bring(0)", x.bring(0), NONE);
        due("bring(NONE)", x.bring(NONE), 0);
    }

    @Says("(not SENT BACK by it,")
    static void bringNotSentBack() {
        // a is bored of g in hour 0; b wakes then.
        Counted x = with("beast a wakes 0 to 23 at 1;beast b wakes 1 to 23 at 1;guest g 1 1 1 comes 0 to 23;likes 5;bores 9;");
        due("bring(0)", x.bring(0), 0);
        x.hours(1);
        row("bring()", b -> x.bring(b), NONE, 0);
        due("bring(NONE)", x.bring(NONE), 5);
        x.hours(1);
        row("bring()", b -> x.bring(b), NONE, NONE);
    }

    @Says("(not SENT BACK by it, not KEPT,")
    static void bringNotKept() {
        Counted x = with("beast a wakes 0 to 23 at 1;beast b wakes 2 to 23 at 1;guest g 1 1 1 comes 0 to 23;likes 5;keeps 2;");
        x.hours(1);
        due("bring(0)", x.bring(0), 0);
        x.hours(1);
        row("bring() of one kept", b -> x.bring(b), NONE, NONE);
        due("bring(NONE)", x.bring(NONE), 0);
    }

    @Says("whom it likes above 0,")
    static void bringLiked() {
        Counted x = with("beast a wakes 0 to 23 at 1;guest g 0 1 1 comes 0 to 23;likes looks;");
        due("bring(0) liked 0", x.bring(0), NONE);
        due("bring(NONE)", x.bring(NONE), 0);
        x.change(0, 1, 1, 1);
        due("bring(0) liked 1", x.bring(0), 0);
        due("bring(NONE)", x.bring(NONE), 1);
        due("bring(0) liked below 0", with(ONE + "likes 0-1;").bring(0), NONE);
        due("bring(NONE) liked 999", with(TWO + "likes 9999;").bring(NONE), 2 * 999);
    }

    @Says("who does not fear it),")
    static void bringNotFearing() {
        Counted x = with(TWO + "fears g a;");
        row("bring()", b -> x.bring(b), 1, 0);
        due("bring(NONE) of who fears", with(ONE + "fears g a;").bring(NONE), 0);
        due("bring(0) of who fears", with(ONE + "fears g a;").bring(0), NONE);
    }

    @Says("one each, or none,")
    static void bringOneEach() {
        Counted x = with(beasts(2) + guests(1));
        row("bring()", b -> x.bring(b), 0, NONE);
        due("bring(NONE)", x.bring(NONE), 3);
        due("bring(NONE) of two to one", with(beasts(1) + guests(2)).bring(NONE), 3);
        Counted most = with(beasts(6) + guests(8));
        row("bring()", b -> most.bring(b), 0, 1, 2, 3, 4, 5);
        due("bring(NONE)", most.bring(NONE), 18);
        due("bring(NONE) without guests", with(beasts(6)).bring(NONE), 0);
        due("bring(5) without guests", with(beasts(6)).bring(5), NONE);
        // None of eight, though the next beast is brought one.
        Counted none = with(beasts(6) + guests(8) + "likes if(suits>3,9,0);");
        row("bring() of none liked", b -> none.bring(b), NONE, NONE, NONE, NONE, NONE, NONE);
        none.train(1, 2, 2, 2);
        row("bring() of one beast that likes", b -> none.bring(b), NONE, 0, NONE, NONE, NONE, NONE);
        // A smaller zoo behind a larger one.
        due("bring(NONE) of the larger", most.bring(NONE), 18);
        most.read(beasts(2) + guests(2));
        row("bring() of the smaller", b -> most.bring(b), 0, 1, NONE);
        due("bring(NONE) of the smaller", most.bring(NONE), 6);
    }

    @Says("no more than ushers:")
    static void bringUshers() {
        for (int ushers = 0; ushers <= 4; ushers++) {
            Counted x = with(beasts(3) + guests(3) + "taste bb 2 2 2;taste bc 3 3 3;ushers " + ushers + ";");
            int[] together = {0, 9, 15, 18, 18};
            due("bring(NONE) by " + ushers, x.bring(NONE), together[ushers]);
            due("bring(2) by " + ushers, x.bring(2) != NONE, ushers > 0);
            due("bring(1) by " + ushers, x.bring(1) != NONE, ushers > 1);
            due("bring(0) by " + ushers, x.bring(0) != NONE, ushers > 2);
        }
    }

    @Says("so that they are liked most together;")
    static void bringMost() {
        // a likes g 9, h 8; b likes g 5, h nothing: 8 + 5 is more than 9.
        Counted x = with("beast a wakes 0 to 23 at 1;taste a 1 0 0;beast b wakes 0 to 23 at 1;taste b 0 1 0;"
            + "guest g 9 5 0 comes 0 to 23;guest h 8 0 0 comes 0 to 23;");
        row("bring()", b -> x.bring(b), 1, 0);
        due("bring(NONE)", x.bring(NONE), 13);
        // By one usher it is 9 alone.
        Counted y = with("ushers 1;beast a wakes 0 to 23 at 1;taste a 0 1 0;beast b wakes 0 to 23 at 1;taste b 1 0 0;"
            + "guest g 8 0 0 comes 0 to 23;guest h 9 5 0 comes 0 to 23;");
        row("bring()", b -> y.bring(b), NONE, 1);
        due("bring(NONE)", y.bring(NONE), 9);
    }

    @Says("of like ones the first by BEASTS (GUESTS by numbers, none behind all).")
    static void bringFirst() {
        Counted x = with(TWO);
        row("bring() of like ones", b -> x.bring(b), 0, 1);
        Counted one = with(TWO + "ushers 1;");
        row("bring() by one usher", b -> one.bring(b), 0, NONE);
        // The last guest goes ahead of none.
        Counted last = with(beasts(2) + guests(8) + "ushers 1;likes if(looks=9,5,0);");
        last.change(7, 9, 1, 1);
        row("bring() of the last guest", b -> last.bring(b), 7, NONE);
        last.change(3, 9, 1, 1);
        row("bring() of the fourth", b -> last.bring(b), 3, NONE);
        // a likes g 2, h 1; b likes g 3, h 2: 4 either way.
        Counted even = with("beast a wakes 0 to 23 at 1;taste a 1 0 0;beast b wakes 0 to 23 at 1;taste b 1 1 0;"
            + "guest g 2 1 0 comes 0 to 23;guest h 1 1 0 comes 0 to 23;");
        row("bring() of even ones", b -> even.bring(b), 0, 1);
        due("bring(NONE)", even.bring(NONE), 4);
    }

    @Says("may counts for nothing.")
    static void bringWithoutMay() {
        Counted x = with(ONE + "may not all;");
        due("bring(0)", x.bring(0), 0);
        due("bring(NONE)", x.bring(NONE), 3);
    }

    // ---- to dress

    @Says("TO DRESS: the least change (LOOKS, SMELL, TALK, each 0 .. 9, by how much together) of a GUEST")
    static void leastChange() {
        String[] sums = {"looks", "smell", "talk"};
        for (int k = 0; k < 3; k++) {
            for (int to : new int[] {0, 1, 9}) {
                Counted x = with(ONE + "likes if(" + sums[k] + "=" + to + ",5,0);");
                int[] want = {Math.abs(to - 1), 1, 1, 1};
                want[1 + k] = to;
                row("dress(0, 0) for " + sums[k] + " " + to, w -> x.dress(0, 0, w), want);
            }
            due("dress(0, 0, 0) for 10", with(ONE + "likes if(" + sums[k] + "=10,5,0);").dress(0, 0, 0), NONE);
            due("dress(0, 0, 0) for -1", with(ONE + "likes if(" + sums[k] + "<0,5,0);").dress(0, 0, 0), NONE);
        }
        Counted down = with(ONE + "likes if(looks+smell+talk=0,5,0);");
        row("dress(0, 0) down to nothing", w -> down.dress(0, 0, w), 3, 0, 0, 0);
        Counted up = with(ONE + "likes if(looks+smell+talk=27,5,0);");
        row("dress(0, 0) up to all", w -> up.dress(0, 0, w), 24, 9, 9, 9);
        // From one end to the other; the least of three ways; nothing, if he is asked for as he is.
        Counted far = with("beast a wakes 0 to 23 at 1;guest g 0 9 0 comes 0 to 23;likes if(looks=9 and smell=0 and talk=9,5,0);");
        row("dress(0, 0) from end to end", w -> far.dress(0, 0, w), 27, 9, 0, 9);
        Counted least = with("beast a wakes 0 to 23 at 1;guest g 5 5 5 comes 0 to 23;likes if(looks=0 or smell=9 or talk=8,5,0);");
        row("dress(0, 0), the least", w -> least.dress(0, 0, w), 3, 5, 5, 8);
        Counted none = with(ONE);
        row("dress(0, 0), nothing", w -> none.dress(0, 0, w), 0, 1, 1, 1);
        due("guest(0, 0) stays", up.guest(0, 0), 1);
        due("has(9) stays", up.has(9), 0);
    }

    @Says("so that a BEAST ASKS for him in this HOUR;")
    static void dressToBeAskedFor() {
        // Above 0, above those ahead of him, as much as those behind him.
        Counted x = with("beast a wakes 0 to 22 at 1;taste a 1 0 0;guest g 4 1 1 comes 0 to 23;guest h 2 1 1 comes 0 to 22;"
            + "guest i 1 1 1 comes 1 to 23;");
        row("dress(1, 0), ahead of g", w -> x.dress(1, 0, w), 3, 5, 1, 1);
        row("dress(0, 0), as he is", w -> x.dress(0, 0, w), 0, 4, 1, 1);
        due("dress(2, 0, 0), not there", x.dress(2, 0, 0), NONE);
        x.change(1, 5, 1, 1);
        row("dress(0, 0), like h", w -> x.dress(0, 0, w), 1, 5, 1, 1);
        x.hours(23);
        due("dress(0, 0, 0), the beast asleep", x.dress(0, 0, 0), NONE);
        Counted zero = with("beast a wakes 0 to 23 at 1;taste a 0 0 1;guest g 4 4 0 comes 0 to 23;");
        row("dress(0, 0), above 0", w -> zero.dress(0, 0, w), 1, 4, 4, 1);
        // Neither the beast ahead may ask for him, nor have the last usher.
        String two = "beast a wakes 0 to 23 at 1;taste a 1 0 0;beast b wakes 0 to 23 at 1;taste b 0 1 0;"
            + "guest g 5 5 0 comes 0 to 23;guest h 4 4 0 comes 0 to 23;";
        Counted ahead = with(two);
        row("dress(0, 1), less than h for a", w -> ahead.dress(0, 1, w), 2, 3, 5, 0);
        due("dress(0, 1, 0) by one usher", with(two + "ushers 1;").dress(0, 1, 0), NONE);
        due("dress(0, 0, 0) by no usher", with(two + "ushers 0;").dress(0, 0, 0), NONE);
        // may counts, and who fears can be asked for.
        Counted may = with(ONE + "fears g a;may talk>4 and free=6;");
        row("dress(0, 0) by may", w -> may.dress(0, 0, w), 4, 1, 1, 5);
        due("dress(0, 0, 0) by no test", with(ONE + "may not all;").dress(0, 0, 0), NONE);
        // Not whom it sent back, or keeps.
        Counted bored = with(ONE + "bores 9;");
        bored.hours(1);
        due("dress(0, 0, 0), sent back", bored.dress(0, 0, 0), NONE);
        Counted kept = with(ONE + "likes 5;keeps 2;");
        kept.hours(2);
        due("dress(0, 0, 0), kept", kept.dress(0, 0, 0), NONE);
    }

    @Says("of like ones the first by LOOKS, then SMELL, then TALK.")
    static void dressFirst() {
        String text = "beast a wakes 0 to 23 at 1;guest g 3 3 3 comes 0 to 23;likes ";
        Counted less = with(text + "if(looks+smell+talk=8,5,0);");
        row("dress(0, 0), one less", w -> less.dress(0, 0, w), 1, 2, 3, 3);
        Counted more = with(text + "if(looks+smell+talk=10,5,0);");
        row("dress(0, 0), one more", w -> more.dress(0, 0, w), 1, 3, 3, 4);
        Counted smell = with(text + "if(looks=3 and smell+talk=5,5,0);");
        row("dress(0, 0), one less of two", w -> smell.dress(0, 0, w), 1, 3, 2, 3);
        Counted either = with(text + "if(looks=1 or looks=5,5,0);");
        row("dress(0, 0), two less or more", w -> either.dress(0, 0, w), 2, 1, 3, 3);
        Counted talk = with(text + "if(talk=1 or talk=5,5,0);");
        row("dress(0, 0), talk less or more", w -> talk.dress(0, 0, w), 2, 3, 3, 1);
        // The least change goes ahead of the first looks.
        Counted least = with(text + "if(looks=0 or talk=5,5,0);");
        row("dress(0, 0), the least first", w -> least.dress(0, 0, w), 2, 3, 3, 5);
    }

    // ---- tastes

    @Says("TOLD are rows of two GUESTS of whom a BEAST would rather have the first one: by what suits alone, "
        + "with its tastes unknown (0 .. 9 each):")
    static void toldTastes() {
        // No beast is needed, no likes counts; looks alone must be above 0: 9 of 10.
        Counted x = with("guest g 1 0 0 comes 0 to 0;guest h 0 0 0 comes 0 to 0;likes 0;may not all;");
        due("tell()", x.tell(0, 1), 1);
        row("tastes()", w -> x.tastes(w), 900, 1, 0, 0, 9, 9, 9);
        due("tell()", x.tell(1, 0), 1);
        due("tastes(0) below 0", x.tastes(0), 0);
        // Nine times of looks are no more than nine of smell.
        Counted nine = with("guest g 1 0 0 comes 0 to 0;guest h 0 9 0 comes 0 to 0;");
        nine.tell(0, 1);
        // Smell 0: looks 1 .. 9. Smell 1: 9 * 1 is not below 9.
        row("tastes()", w -> nine.tastes(w), 90, 1, 0, 0, 9, 0, 9);
        nine.tell(1, 0);
        // Smell 1 .. 9: looks below 9 times that; with smell 1 not 9.
        row("tastes()", w -> nine.tastes(w), (9 + 8 * 10) * 10, 0, 1, 0, 9, 9, 9);
    }

    @Says("tastes by which each first one suits more than the second one.")
    static void suitsMore() {
        // Looks more than smell: 45 of 100.
        Counted x = with("guest g 1 0 0 comes 0 to 0;guest h 0 1 0 comes 0 to 0;guest i 0 0 1 comes 0 to 0;guest j 0 1 0 comes 0 to 0;");
        x.tell(0, 1);
        row("tastes()", w -> x.tastes(w), 450, 1, 0, 0, 9, 8, 9);
        // And smell more than talk: 120 of 1000.
        x.tell(0, 1, 1, 2);
        row("tastes()", w -> x.tastes(w), 120, 2, 1, 0, 9, 8, 7);
        // Alike is not more.
        x.tell(1, 3);
        due("tastes(0) of like ones", x.tastes(0), 0);
        // Each one of the sixteen rows counts, the last one too.
        int[] rows = new int[32];
        for (int i = 0; i < 32; i += 2) {
            rows[i + 1] = 1;
        }
        due("tell() of sixteen", x.tell(rows), 16);
        due("tastes(0)", x.tastes(0), 450);
        rows[31] = 2;
        x.tell(rows);
        // Looks above smell and above talk: the sum of l * l.
        due("tastes(0)", x.tastes(0), 285);
        // As the guests look now.
        x.change(2, 0, 0, 0);
        due("tastes(0) as they look now", x.tastes(0), 450);
    }

    @Says("SEND: the two GUESTS (the lesser number first) by whom, whichever it would rather have, or both alike, "
        + "the most tastes left are fewest;")
    static void sendFewest() {
        // g, h and j are alike: all 1000 left. Against i each suits more by looks above 0: 900.
        Counted x = with("guest g 1 0 0 comes 0 to 0;guest h 1 0 0 comes 0 to 0;guest i 0 0 0 comes 0 to 0;guest j 1 0 0 comes 0 to 0;");
        row("send()", w -> x.send(w), 0, 2, 900);
        x.change(3, 0, 1, 0);
        // Looks against smell: 450, 450, 100.
        row("send()", w -> x.send(w), 0, 3, 450);
        // Both alike is the most that can be left.
        Counted alike = with("guest g 0 0 0 comes 0 to 0;guest h 0 0 0 comes 0 to 0;");
        row("send() of two alike", w -> alike.send(w), 0, 1, 1000);
        // The second one is the one it would rather have.
        Counted second = with("guest g 0 0 0 comes 0 to 0;guest h 1 0 0 comes 0 to 0;");
        row("send() of the second", w -> second.send(w), 0, 1, 900);
        // By what is left alone: looks above smell, 450; looks and talk: 285, 45 alike, 120.
        Counted left = with("guest g 1 0 0 comes 0 to 0;guest h 0 1 0 comes 0 to 0;guest i 0 0 1 comes 0 to 0;");
        left.tell(0, 1);
        row("send() behind a row", w -> left.send(w), 0, 2, 285);
        due("send() by the latest rows", left.tell(0, 1, 0, 2), 2);
        // Looks above both, 285: smell and talk, 120, 120, 45.
        row("send() behind two rows", w -> left.send(w), 1, 2, 120);
    }

    @Says("are fewest; of like ones the first.")
    static void sendFirst() {
        Counted x = with("guest g 1 0 0 comes 0 to 0;guest h 0 1 0 comes 0 to 0;guest i 0 0 1 comes 0 to 0;");
        row("send() of three like pairs", w -> x.send(w), 0, 1, 450);
        Counted all = with(guests(8));
        row("send() of all alike", w -> all.send(w), 0, 1, 1000);
        all.change(7, 2, 1, 1);
        row("send() with the last one", w -> all.send(w), 0, 7, 900);
        all.change(0, 2, 1, 1);
        row("send() with the first and the last one", w -> all.send(w), 0, 1, 900);
    }

    // ---- rings

    @Says("ROUND: each BEAST that is awake holds the GUEST whom it would ask for now, were it alone")
    static void held() {
        Counted x = with("beast a wakes 0 to 23 at 1;beast b wakes 0 to 23 at 1;beast c wakes 1 to 23 at 1;"
            + "guest g 2 2 2 comes 0 to 23;guest h 1 1 1 comes 0 to 23;guest i 9 9 9 comes 1 to 23;");
        // Both would ask for g, were they alone; c sleeps; i is not there.
        for (int b = 0; b < 3; b++) {
            int beast = b;
            int held = b < 2 ? 0 : NONE;
            row("round(" + b + ")", w -> x.round(beast, w), held, b < 2 ? 1 : NONE, held);
        }
        x.hours(1);
        due("round(2, 2) awake", x.round(2, 2), 2);
        due("round(0, 2) in hour 1", x.round(0, 2), 2);
        // Who fears it is held, not whom it sent back, nor who is kept, by whomever.
        due("round(0, 2) of who fears it", with(ONE + "fears g a;").round(0, 2), 0);
        Counted bored = with(beasts(2) + guests(1) + "bores 9;ushers 1;");
        bored.hours(1);
        due("round(0, 2) sent back", bored.round(0, 2), NONE);
        due("round(1, 2) sent back by the other one", bored.round(1, 2), 0);
        Counted kept = with(beasts(2) + guests(1) + "likes 5;keeps 2;");
        kept.hours(2);
        due("round(0, 2) kept", kept.round(0, 2), NONE);
        due("round(1, 2) kept by the other one", kept.round(1, 2), NONE);
        // Of like ones the first, by may.
        due("round(0, 2) of like ones", with(TWO).round(0, 2), 0);
        Counted may = with(TWO + "may looks>1;");
        due("round(0, 2) by may", may.round(0, 2), NONE);
        may.change(1, 2, 1, 1);
        due("round(0, 2) by may", may.round(0, 2), 1);
    }

    @Says("(with all ushers free, one at least), if any:")
    static void ushersOfRounds() {
        Counted x = with(beasts(3) + guests(3) + "ushers 2;may free=2;");
        for (int b = 0; b < 3; b++) {
            due("round(" + b + ", 2) by two ushers", x.round(b, 2), 0);
        }
        due("round(0, 2) by six", with(ONE + "may free=6;").round(0, 2), 0);
        due("round(0, 2) by one", with(ONE + "ushers 1;may free=1;").round(0, 2), 0);
        due("round(0, 2) by one at least", with(ONE + "ushers 0;may free=1;").round(0, 2), 0);
        due("round(0, 0) by one at least", with(ONE + "ushers 0;").round(0, 0), 0);
        due("asks(0, 0) by none", with(ONE + "ushers 0;").asks(0, 0), NONE);
        // If any.
        Counted none = with(ONE + "likes 0;");
        row("round(0) of none liked", w -> none.round(0, w), NONE, NONE, NONE);
    }

    @Says("round by round each BEAST left points at who holds the GUEST it likes most, of those left")
    static void roundByRound() {
        // All like the guests in one order: one leaves in each round, with its own.
        rounds(holders(6, "looks"), new int[] {0, 1, 2, 3, 4, 5}, new int[] {1, 2, 3, 4, 5, 6});
        rounds(holders(6, "smell"), new int[] {0, 1, 2, 3, 4, 5}, new int[] {6, 5, 4, 3, 2, 1});
        // The second and third swap; the first one likes the second's most, then what is left: its own.
        rounds(holders(3, "if(suits/smell=1,if(smell=2,9,if(smell=3,5,3)),if(suits/smell=2,if(smell=3,9,2),if(smell=2,9,2)))"),
            new int[] {0, 2, 1}, new int[] {2, 1, 1});
        // Only guests that are held count: the third one is held by none.
        Counted x = with(beasts(2) + "taste ba 1 0 0;taste bb 1 0 0;guest g 1 1 0 comes 0 to 23;guest h 2 1 0 comes 0 to 23;"
            + "guest i 9 1 0 comes 0 to 23;may looks<9;");
        row("round(0)", w -> x.round(0, w), 1, 1, 1);
        row("round(1)", w -> x.round(1, w), 1, 1, 1);
        // What it may not ask for it points at all the same, and what it sent back.
        rounds(holders(2, "if(smell=3-suits/smell,9,1)"), new int[] {1, 0}, new int[] {1, 1});
    }

    @Says("(its own, if that is among these;")
    static void itsOwnAmongThese() {
        // All are liked alike.
        rounds(holders(4, "5"), new int[] {0, 1, 2, 3}, new int[] {1, 1, 1, 1});
        // Two hold one guest: each keeps to itself.
        Counted x = with(beasts(2) + guests(1));
        row("round(0)", w -> x.round(0, w), 0, 1, 0);
        row("round(1)", w -> x.round(1, w), 0, 1, 0);
        // The second one likes the first's as much as its own; the first one would like the second's more.
        rounds(holders(2, "if(suits/smell=1,smell,5)"), new int[] {0, 1}, new int[] {2, 1});
    }

    @Says("of like others the first BEAST);")
    static void likeOthers() {
        // Each likes all others' alike, more than its own: the first points at the second, the others at the first.
        rounds(holders(4, "if(smell=suits/smell,1,9)"), new int[] {1, 0, 3, 2}, new int[] {1, 1, 2, 2});
        rounds(holders(3, "if(smell=suits/smell,1,9)"), new int[] {1, 0, 2}, new int[] {1, 1, 2});
        // Two hold the guest that the third one likes most: it points at the first of them.
        Counted x = with(beasts(3) + "taste ba 1 0 0;taste bb 1 0 0;taste bc 0 1 0;guest g 5 9 0 comes 0 to 23;"
            + "guest h 1 5 0 comes 0 to 23;may suits=5;");
        row("round(0)", w -> x.round(0, w), 0, 1, 0);
        row("round(1)", w -> x.round(1, w), 0, 1, 0);
        row("round(2)", w -> x.round(2, w), 1, 2, 1);
    }

    @Says("who goes round in a ring gets that GUEST and leaves.")
    static void goesRound() {
        // One ring of all, two rings, rings of one.
        rounds(holders(6, "if(smell=suits/smell%6+1,9,1)"), new int[] {1, 2, 3, 4, 5, 0}, new int[] {1, 1, 1, 1, 1, 1});
        rounds(holders(4, "if(smell=5-suits/smell,9,1)"), new int[] {3, 2, 1, 0}, new int[] {1, 1, 1, 1});
        rounds(holders(6, "if(smell=suits/smell,9,1)"), new int[] {0, 1, 2, 3, 4, 5}, new int[] {1, 1, 1, 1, 1, 1});
        // Who points into a ring does not go round in it: the third points at the first, who swaps with the second.
        rounds(holders(3, "if(suits/smell=1,if(smell=2,9,1),if(smell=1,9,1))"), new int[] {1, 0, 2}, new int[] {1, 1, 2});
        // A ring of five, and one who points into it.
        rounds(holders(6, "if(suits/smell=6,if(smell=1,9,1),if(smell=suits/smell%5+1,9,1))"),
            new int[] {1, 2, 3, 4, 0, 5}, new int[] {1, 1, 1, 1, 1, 2});
    }

    // ---- walks

    @Says("WALK: for told BEASTS, so many ushers: an usher goes from PLACE 0 to a BEAST and back, BEAST by BEAST, "
        + "each BEAST is gone to by one of them: the least steps of the one who walks most.")
    static void walks() {
        StringBuilder text = new StringBuilder();
        int[] places = {10, 9, 8, 7, 6, 99};
        for (int i = 0; i < 6; i++) {
            text.append("beast b").append((char) ('a' + i)).append(" wakes 5 to 5 at ").append(places[i]).append(';');
        }
        Counted x = with(text.toString());
        due("walk to nobody", x.walk(0, 1), 0);
        due("walk to one", x.walk(1, 1), 20);
        due("walk to the farthest", x.walk(32, 1), 198);
        due("walk to all by one", x.walk(63, 1), 278);
        // Of 40 to go: 10 9 against 8 7 6.
        int[] five = {80, 42, 30, 26, 20, 20};
        for (int ushers = 1; ushers <= 6; ushers++) {
            due("walk to five by " + ushers, x.walk(31, ushers), five[ushers - 1]);
            due("walk to one by " + ushers, x.walk(4, ushers), 16);
            due("walk to all by " + ushers, x.walk(63, ushers), ushers == 1 ? 278 : 198);
        }
        // Who is nearest first is not the best: 6 5 5 against 4 4 4 4 would be 8 9.
        Counted y = with("beast a wakes 1 to 1 at 8;beast b wakes 1 to 1 at 7;beast c wakes 1 to 1 at 6;beast d wakes 1 to 1 at 5;"
            + "beast e wakes 1 to 1 at 4;beast f wakes 1 to 1 at 0;");
        due("walk to all by two", y.walk(63, 2), 30);
        due("walk to all by three", y.walk(63, 3), 22);
        due("walk to place 0", y.walk(32, 1), 0);
    }

    // ---- registers

    @Says("TORN is a register: rows of BEAST, GUEST, told of HOURS that came AHEAD (such as can go by: none from DAY 999, HOUR 23 on),")
    static void tornAtTheEnd() {
        Counted x = with(ONE + "likes 5;keeps 9;");
        x.toMoment(999, 21);
        due("torn() of one", x.torn(0, 0), 1);
        due("torn() of two, hours 21 and 22", x.torn(0, 0, 0, 0), 2);
        due("torn() of three, hour 23 too", x.torn(0, 0, 0, 0, 0, 0), NONE);
        x.toMoment(999, 22);
        due("torn() of hour 22", x.torn(0, 0), 1);
        x.toMoment(999, 23);
        due("torn() of hour 23", x.torn(0, 0), NONE);
        due("asks(0, 0) in hour 23", x.asks(0, 0), 0);
        due("status(5)", x.status(5), 0);
    }

    @Says("in their order (others may be between them):")
    static void tornOrder() {
        // In each hour a sees g and b sees h; from hour 3 on c sees i.
        Counted x = with("beast a wakes 0 to 23 at 1;beast b wakes 0 to 23 at 1;beast c wakes 3 to 23 at 1;"
            + "guest g 1 1 1 comes 0 to 23;guest h 1 1 1 comes 0 to 23;guest i 1 1 1 comes 3 to 23;likes 5;keeps 9;");
        due("torn() in one hour", x.torn(0, 0, 1, 1), 1);
        due("torn() against the order of an hour", x.torn(1, 1, 0, 0), 2);
        due("torn() of one twice", x.torn(1, 1, 1, 1), 2);
        due("torn() with others between", x.torn(0, 0, 2, 2), 4);
        due("torn() with others between", x.torn(0, 0, 2, 2, 0, 0, 1, 1, 2, 2), 5);
        due("torn() all of an hour against its order", x.torn(2, 2, 1, 1, 0, 0), 6);
        due("torn() of six", with(beasts(6) + guests(6) + "likes 5;").torn(0, 0, 5, 5, 5, 5, 1, 1), 3);
        due("torn() of what never comes", x.torn(0, 1), NONE);
        due("torn() of what comes, ahead of what never does", x.torn(0, 0, 1, 2), NONE);
    }

    @Says("the least HOURS AHEAD by which all of them have come,")
    static void tornLeast() {
        Counted x = with("beast a wakes 4 to 4 at 1;guest g 1 1 1 comes 0 to 23;likes 5;");
        int[] comes = {5, 29, 53, 77};
        for (int n = 1; n <= 4; n++) {
            due("torn() of " + n, x.torn(new int[2 * n]), comes[n - 1]);
        }
        due("torn() of 5, in the 101st hour", x.torn(new int[10]), NONE);
        x.hours(1);
        due("torn() of 5, in the 100th hour", x.torn(new int[10]), 100);
        x.hours(3);
        due("torn() of now", x.torn(0, 0), 1);
        // Without draws, from now on; nothing goes by.
        due("has(3)", x.has(3), 4);
        due("has(8)", x.has(8), 0);
    }

    @Says("as ASKINGS that were not refused.")
    static void tornNotRefused() {
        // g fears a in hour 0, and is there no more when h is.
        Counted x = with("beast a wakes 0 to 23 at 1;guest g 1 1 1 comes 0 to 0;guest h 1 1 1 comes 1 to 5;fears g a;likes 5;keeps 3;");
        due("torn() of who refuses", x.torn(0, 0), NONE);
        due("torn() of who does not", x.torn(0, 1), 2);
        // Kept in the third one.
        due("torn() up to the one that is kept", x.torn(0, 1, 0, 1, 0, 1), 4);
        due("torn() behind it, the next day", x.torn(0, 1, 0, 1, 0, 1, 0, 1), 26);
        due("torn() of one sent back", with(ONE + "bores 9;").torn(0, 0), 1);
    }

    // ---- images

    private static void octets(Counted x, int from, int... want) {
        for (int k = 0; k < want.length; k++) {
            due("octet(" + (from + k) + ")", x.octet(from + k), want[k]);
        }
    }

    @Says("AN IMAGE: DAY (two bytes, the higher first), HOUR;")
    static void imageOfTime() {
        int[][] moments = {{0, 0}, {0, 23}, {255, 1}, {256, 2}, {999, 23}};
        Counted x = with(ONE);
        for (int[] m : moments) {
            x.toMoment(m[0], m[1]);
            due("has(2)", x.has(2), m[0]);
            x.image();
            octets(x, 0, m[0] / 256, m[0] % 256, m[1]);
        }
    }

    @Says("fees paid (two bytes);")
    static void imageOfFees() {
        Counted x = with(ONE + "fee 85;fears g a;");
        x.image();
        octets(x, 3, 0, 0);
        x.hours(3);
        x.image();
        octets(x, 3, 0, 255);
        x.hours(1);
        x.image();
        octets(x, 3, 1, 84);
        x.hours(200);
        x.image();
        octets(x, 3, 39, 15);
    }

    @Says("for each GUEST LOOKS, SMELL, TALK, by whom KEPT and 1 (0: not), by whom SENT BACK, as bits;")
    static void imageOfGuests() {
        // g is liked by nobody, h is sent back by the first beast.
        Counted x = with(beasts(6) + "guest g 0 9 1 comes 0 to 0;guest h 9 0 8 comes 0 to 0;likes if(looks=9,1,0);bores 9;");
        x.image();
        octets(x, 5, 0, 9, 1, 0, 0, 9, 0, 8, 0, 0);
        x.hours(1);
        x.image();
        octets(x, 5, 0, 9, 1, 0, 0, 9, 0, 8, 0, 1);
        Counted kept = with("beast a wakes 9 to 9 at 1;beast b wakes 0 to 23 at 1;guest g 1 2 3 comes 0 to 23;likes 5;keeps 2;");
        kept.hours(2);
        kept.image();
        octets(kept, 5, 1, 2, 3, 2, 0);
        Counted first = with(ONE + "likes 5;keeps 2;");
        first.hours(2);
        first.image();
        octets(first, 5, 1, 1, 1, 1, 0);
        Counted all = with("beast a wakes 0 to 0 at 1;beast b wakes 1 to 1 at 1;beast c wakes 2 to 2 at 1;beast d wakes 3 to 3 at 1;"
            + "beast e wakes 4 to 4 at 1;beast f wakes 5 to 5 at 1;guest g 1 1 1 comes 0 to 23;bores 99;");
        all.hours(6);
        all.image();
        octets(all, 5, 1, 1, 1, 0, 63);
    }

    @Says("for each BEAST three tastes, and for each GUEST how often it SAW him in all, on this DAY;")
    static void imageOfBeasts() {
        Counted x = with(TWO + "taste a 9 0 1;taste b 0 9 2;likes 5;keeps 9;");
        x.hours(26);
        x.image();
        octets(x, 15, 9, 0, 1, 11, 2, 0, 0, 0, 9, 2, 0, 0, 11, 2);
        x.become(18, 99, 19, 99);
        x.image();
        octets(x, 18, 99, 99);
    }

    @Says("last a byte: all ahead from 151 on, c = (5 c + it) mod 251.")
    static void imageCheck() {
        Counted x = with(TWO + "likes 5;");
        x.hours(200);
        int[] bytes = x.picture();
        due("image()", bytes.length, 30);
        int c = 151;
        for (int i = 0; i < 29; i++) {
            c = (5 * c + bytes[i]) % 251;
        }
        due("octet(29)", bytes[29], c);
        // Of nothing at all: 151 and five bytes of 0.
        Counted none = new Counted();
        none.image();
        due("octet(5)", none.octet(5), (int) (151L * 3125 % 251));
    }
}

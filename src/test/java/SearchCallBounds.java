/** Promises 11 to 20: the calls that look ahead, and those that look among all that could be done. */
final class SearchCallBounds extends Answers {
    private static final int[] NO_SUCH = {-1, LEAST, GREATEST};

    private SearchCallBounds() {
    }

    @Says(promise = 11, value = "For whom a BEAST ASKS in the n-th HOUR AHEAD (0: the HOUR that is now; 99 at most).")
    static void asks() {
        Counted x = with(beasts(2) + "guest g 1 1 1 comes 0 to 1;guest h 1 1 1 comes 1 to 23;fears g ba;fears g bb;fears h ba;fears h bb;");
        int[][] want = {{0, 0, NONE}, {1, 0, 1}, {2, 1, NONE}, {23, 1, NONE}, {24, 0, NONE}, {25, 0, 1}, {98, 1, NONE}, {97, 0, 1},
            {99, 1, NONE}};
        for (int[] w : want) {
            due("asks(0, " + w[0] + ")", x.asks(0, w[0]), w[1]);
            due("asks(1, " + w[0] + ")", x.asks(1, w[0]), w[2]);
        }
        x.hours(1);
        due("asks(1, 0) now", x.asks(1, 0), 1);
        due("asks(1, 96)", x.asks(1, 96), 1);
    }

    @Says(promise = 11, value = "NONE for nobody, when there is none such, or n can't be.")
    static void asksNone() {
        Counted x = with(TWO + "guest i 1 1 1 comes 0 to 1;ushers 1;fears g a;");
        due("asks(0, 0)", x.asks(0, 0), 0);
        due("asks(1, 0) for nobody", x.asks(1, 0), NONE);
        due("asks(2, 0)", x.asks(2, 0), NONE);
        for (int no : NO_SUCH) {
            due("asks(" + no + ", 0)", x.asks(no, 0), NONE);
            due("asks(0, " + no + ")", x.asks(0, no), NONE);
        }
        due("asks(0, 100)", x.asks(0, 100), NONE);
        x.toMoment(999, 23);
        due("asks(0, 1) beyond day 999", x.asks(0, 1), NONE);
        // None of these is refused.
        for (int k = 0; k < 6; k++) {
            due("status(" + k + ")", x.status(k), 0);
        }
    }

    /** a is awake in hour 3 alone; g is liked no more from its fifth day on. */
    private static Counted aloneOnDayFour() {
        return with("beast a wakes 3 to 3 at 1;guest g 1 1 1 comes 0 to 23;likes 4-saw;bores 0;");
    }

    @Says(promise = 12, value = "The first HOUR AHEAD (0: now) in which a BEAST is awake, and ASKS for nobody (what 0),")
    static void firstAlone() {
        due("alone(0) now", with(beasts(1)).alone(0), 0);
        due("alone(0) in hour 1", with("beast a wakes 0 to 23 at 1;guest g 1 1 1 comes 0 to 0;").alone(0), 1);
        // Asleep is not alone.
        due("alone(0) in hour 23", with("beast a wakes 23 to 23 at 1;").alone(0), 23);
        // The 99th hour ahead is one of them, the 100th is none.
        Counted x = aloneOnDayFour();
        due("alone(0), hour 3 of day 4", x.alone(0), 99);
        Counted y = with("beast a wakes 4 to 4 at 1;guest g 1 1 1 comes 0 to 23;likes 4-saw;bores 0;");
        due("alone(0), hour 4 of day 4", y.alone(0), NONE);
        y.hours(1);
        due("alone(0) an hour later", y.alone(0), 99);
        y.hours(3);
        due("alone(0) with an asking now", y.alone(0), 96);
        // Up to hour 23 of day 999.
        Counted end = with("beast a wakes 23 to 23 at 1;");
        end.toMoment(999, 20);
        due("alone(0) in the last hour of all", end.alone(0), 3);
        end.toMoment(999, 23);
        due("alone(0) in the last hour of all", end.alone(0), 0);
        Counted never = with("beast a wakes 22 to 22 at 1;");
        never.toMoment(999, 23);
        due("alone(0) beyond it", never.alone(0), NONE);
    }

    @Says(promise = 12, value = "the first such BEAST (1).")
    static void firstBeastAlone() {
        Counted x = with("beast a wakes 5 to 5 at 1;beast b wakes 0 to 23 at 1;beast c wakes 0 to 23 at 1;beast d wakes 0 to 23 at 1;"
            + "guest g 1 1 1 comes 0 to 23;fears g b;");
        due("alone(0)", x.alone(0), 0);
        due("alone(1)", x.alone(1), 2);
        Counted last = with(beasts(6) + guests(5) + "fears ga ba;fears gb bb;fears gc bc;fears gd bd;fears ge be;");
        due("alone(1) of the last", last.alone(1), 5);
        due("alone(1) of the first", with(beasts(6)).alone(1), 0);
        due("alone(1) on day 4", aloneOnDayFour().alone(1), 0);
    }

    @Says(promise = 12, value = "NONE without, or for others.")
    static void aloneNone() {
        Counted x = with(ONE + "fears g a;");
        due("alone(0) without", x.alone(0), NONE);
        due("alone(1) without", x.alone(1), NONE);
        due("alone(0) without beasts", with(guests(1)).alone(0), NONE);
        // All six ask, for who refuses.
        StringBuilder six = new StringBuilder(beasts(6) + guests(6));
        for (char c = 'a'; c < 'g'; c++) {
            six.append("fears g").append(c).append(" b").append(c).append(';');
        }
        due("alone(0) of six", with(six.toString()).alone(0), NONE);
        // The beasts of zoos ahead are awake no more.
        Counted last = new Counted();
        for (int i = 0; i < 2; i++) {
            last.read(beasts(6));
            due("alone(0) of six without guests", last.alone(0), 0);
        }
        last.read(ONE + "fears g a;");
        due("alone(0) behind six", last.alone(0), NONE);
        Counted y = with(beasts(1));
        for (int what : new int[] {-1, 2, 3, LEAST, GREATEST}) {
            due("alone(" + what + ")", y.alone(what), NONE);
        }
    }

    @Says(promise = 13, value = "BRINGING: liked together (beast NONE), the GUEST for a BEAST (NONE: none).")
    static void bring() {
        Counted x = with(beasts(3) + guests(2));
        due("bring(NONE)", x.bring(NONE), 6);
        row("bring()", b -> x.bring(b), 0, 1, NONE);
        due("bring(NONE) of no beasts", new Counted().bring(NONE), 0);
        due("bring(NONE) at most", with(beasts(6) + guests(8) + "likes 999;").bring(NONE), 6 * 999);
    }

    @Says(promise = 13, value = "NONE when there is none such.")
    static void bringNone() {
        Counted x = with(beasts(3) + guests(4));
        due("bring(3)", x.bring(3), NONE);
        due("bring(-2)", x.bring(-2), NONE);
        due("bring(least)", x.bring(LEAST), NONE);
        due("bring(greatest)", x.bring(GREATEST), NONE);
        due("bring(0) of no beasts", new Counted().bring(0), NONE);
    }

    @Says(promise = 14, value = "TO DRESS for a GUEST, a BEAST: how much changes together (what 0), LOOKS (1), SMELL (2), TALK (3).")
    static void dress() {
        Counted x = with("beast a wakes 0 to 23 at 1;beast b wakes 0 to 23 at 1;guest g 5 5 5 comes 0 to 23;guest h 1 2 3 comes 0 to 23;"
            + "guest i 9 9 9 comes 0 to 23;likes if(looks=9 and smell=0,5,0);");
        row("dress(1, 0)", w -> x.dress(1, 0, w), 10, 9, 0, 3);
        // The first beast asks for him then, the second one can't.
        due("dress(1, 1, 0)", x.dress(1, 1, 0), NONE);
        x.change(0, 9, 0, 5);
        row("dress(1, 1), g being the first one's", w -> x.dress(1, 1, w), 10, 9, 0, 3);
        due("dress(1, 0, 0), g being the first one's", x.dress(1, 0, 0), NONE);
        row("dress(2, 1)", w -> x.dress(2, 1, w), 9, 9, 0, 9);
    }

    @Says(promise = 14, value = "NONE when it can't be, there are none such, or for others.")
    static void dressNone() {
        Counted x = with(TWO + "guest i 1 1 1 comes 1 to 1;");
        due("dress(0, 0, 0)", x.dress(0, 0, 0), 0);
        for (int what = 0; what <= 3; what++) {
            due("dress(2, 0, " + what + "), not there", x.dress(2, 0, what), NONE);
        }
        due("dress(3, 0, 0)", x.dress(3, 0, 0), NONE);
        due("dress(0, 2, 0)", x.dress(0, 2, 0), NONE);
        due("dress(0, 0, 4)", x.dress(0, 0, 4), NONE);
        for (int no : NO_SUCH) {
            due("dress(" + no + ", 0, 0)", x.dress(no, 0, 0), NONE);
            due("dress(0, " + no + ", 0)", x.dress(0, no, 0), NONE);
            due("dress(0, 0, " + no + ")", x.dress(0, 0, no), NONE);
        }
        Counted no = with(ONE + "likes 0;");
        row("dress(0, 0) that can't be", w -> no.dress(0, 0, w), NONE, NONE, NONE, NONE);
    }

    // ---- tastes, rings, walks, registers

    @Says(promise = 15, value = "The tape (it goes, refused or not) is TOLD,")
    static void tellTakesTheTape() {
        Counted x = with(TWO);
        due("tell()", x.tell(0, 1), 1);
        tapeIsEmpty("tell()", x);
        due("tell() of one twice", x.tell(0, 0), NONE);
        tapeIsEmpty("a refused tell()", x);
        due("tell() of the empty tape", x.tell(), NONE);
        // TOLD is what was told last, not all of it.
        due("tell()", x.tell(0, 1, 1, 0), 2);
        due("tell()", x.tell(1, 0), 1);
        due("has(11)", x.has(11), 1);
    }

    @Says(promise = 15, value = "1 to 16 rows of two GUESTS, unlike ones: how many rows;")
    static void tellRows() {
        Counted x = with(guests(8));
        int[] rows = new int[32];
        for (int i = 0; i < 32; i++) {
            rows[i] = i % 8;
        }
        for (int count = 1; count <= 16; count++) {
            due("tell() of " + count, x.tell(java.util.Arrays.copyOf(rows, 2 * count)), count);
            due("has(11)", x.has(11), count);
        }
        due("tell() of the last two", x.tell(7, 6), 1);
    }

    @Says(promise = 15, value = "NONE, refused (5), all staying, when it is none such.")
    static void tellRefused() {
        int[][] none = {{}, {0}, {0, 1, 1}, {0, 0}, {1, 1}, {0, 1, 1, 1}, {0, 2}, {2, 0}, {0, 1, 0, 2}, {255, 0}, {0, 255}, new int[34]};
        for (int i = 0; i < 34; i += 2) {
            none[11][i] = 1;
        }
        for (int[] bytes : none) {
            Counted x = with(TWO);
            x.tell(0, 1, 0, 1);
            x.change(0, 2, 1, 1);
            x.put(bytes);
            refused(x, 5, "tell() of " + java.util.Arrays.toString(bytes), x::tell);
            due("has(11)", x.has(11), 2);
            due("tastes(0)", x.tastes(0), 900);
        }
        Counted empty = new Counted();
        empty.put(0, 1);
        refused(empty, 5, "tell() without guests", empty::tell);
    }

    @Says(promise = 16, value = "By TOLD (all tastes, if nothing is): how many tastes (what 0),")
    static void tastes() {
        Counted x = new Counted();
        due("tastes(0) ahead of any zoo", x.tastes(0), 1000);
        x.read(TWO);
        due("tastes(0) of nothing told", x.tastes(0), 1000);
        x.tell(0, 1);
        due("tastes(0) of like ones", x.tastes(0), 0);
        x.change(0, 1, 1, 2);
        due("tastes(0) by talk", x.tastes(0), 900);
        x.read(TWO);
        due("tastes(0) of nothing told", x.tastes(0), 1000);
        // Just one.
        Counted one = with("guest g 9 9 9 comes 0 to 0;guest h 0 0 0 comes 0 to 0;guest i 1 0 0 comes 0 to 0;guest j 0 9 0 comes 0 to 0;"
            + "guest k 0 1 0 comes 0 to 0;guest l 0 0 9 comes 0 to 0;");
        // Talk above 0, smell more than nine times talk: none. Looks less: smell above looks by one at least.
        due("tell()", one.tell(4, 5, 5, 1), 2);
        due("tastes(0)", one.tastes(0), 0);
        one.change(5, 0, 0, 8);
        // Smell 9, talk 1.
        due("tastes(0)", one.tastes(0), 10);
        due("tell()", one.tell(4, 5, 5, 1, 2, 4), 3);
        due("tastes(0) with looks above smell", one.tastes(0), 0);
        one.change(2, 0, 0, 0);
        one.change(3, 9, 0, 0);
        // Nine times of looks above smell: looks 2 and on.
        one.tell(4, 5, 5, 1, 3, 4);
        due("tastes(0)", one.tastes(0), 8);
    }

    @Says(promise = 16, value = "the least LOOKS, SMELL, TALK in any of them (1, 2, 3), the greatest (4, 5, 6; NONE of these without).")
    static void tastesFromTo() {
        Counted x = with("guest g 1 0 0 comes 0 to 0;guest h 0 1 0 comes 0 to 0;guest i 0 0 1 comes 0 to 0;");
        row("tastes() of all", w -> x.tastes(w), 1000, 0, 0, 0, 9, 9, 9);
        x.tell(2, 0);
        row("tastes() of talk above looks", w -> x.tastes(w), 450, 0, 0, 1, 8, 9, 9);
        x.tell(1, 2, 2, 0);
        row("tastes() of smell above talk above looks", w -> x.tastes(w), 120, 0, 2, 1, 7, 9, 8);
        x.tell(0, 1, 1, 0);
        row("tastes() without", w -> x.tastes(w), 0, NONE, NONE, NONE, NONE, NONE, NONE);
        // Just one, 8 9 9: looks are more than seven eighths of smell, and less than it; talk is more than looks.
        Counted one = with("guest g 8 0 0 comes 0 to 0;guest h 0 7 0 comes 0 to 0;guest i 0 1 0 comes 0 to 0;guest j 1 0 0 comes 0 to 0;"
            + "guest k 0 0 1 comes 0 to 0;");
        one.tell(0, 1, 2, 3, 4, 3);
        row("tastes() of one", w -> one.tastes(w), 1, 8, 9, 9, 8, 9, 9);
    }

    @Says(promise = 16, value = "NONE for others.")
    static void tastesNone() {
        Counted x = with(TWO);
        for (int what : new int[] {-1, 7, 8, LEAST, GREATEST}) {
            due("tastes(" + what + ")", x.tastes(what), NONE);
        }
    }

    @Says(promise = 17, value = "SEND: the one (what 0), the other one (1), how many tastes are left at the most (2).")
    static void send() {
        Counted x = with("guest g 1 1 1 comes 0 to 0;guest h 1 1 1 comes 0 to 0;guest i 1 1 1 comes 0 to 0;guest j 1 1 2 comes 0 to 0;");
        row("send()", w -> x.send(w), 0, 3, 900);
        x.tell(3, 0);
        // Talk is above 0: all are left, whomever one sends.
        row("send() of what is known", w -> x.send(w), 0, 1, 900);
        // By one taste alone: it is what is left.
        Counted two = with(guests(2));
        row("send() of two", w -> two.send(w), 0, 1, 1000);
    }

    @Says(promise = 17, value = "NONE with fewer than two GUESTS, without a taste, or for others.")
    static void sendNone() {
        Counted none = new Counted();
        row("send() of no guest", w -> none.send(w), NONE, NONE, NONE);
        Counted one = with(beasts(2) + guests(1));
        row("send() of one guest", w -> one.send(w), NONE, NONE, NONE);
        Counted x = with(guests(2));
        for (int what : new int[] {-1, 3, 4, LEAST, GREATEST}) {
            due("send(" + what + ")", x.send(what), NONE);
        }
        x.tell(0, 1);
        row("send() without a taste", w -> x.send(w), NONE, NONE, NONE);
    }

    @Says(promise = 18, value = "ROUND: the GUEST whom a BEAST gets (what 0; NONE when it holds none at first),")
    static void roundGets() {
        Counted x = with("beast a wakes 0 to 23 at 1;beast b wakes 0 to 23 at 1;beast c wakes 9 to 9 at 1;taste a 0 1 0;taste b 1 0 0;"
            + "guest g 9 1 0 comes 0 to 23;guest h 1 9 0 comes 0 to 23;may suits<5;");
        row("round(, 0)", b -> x.round(b, 0), 1, 0, NONE);
        due("round(0, 0) of none liked", with(ONE + "likes 0;").round(0, 0), NONE);
    }

    @Says(promise = 18, value = "in which round (1; 1 and on; NONE then),")
    static void roundNumber() {
        // All like g most, then h; a alone may ask for g, b alone for h, c for i.
        Counted x = with(beasts(4) + "taste ba 1 0 0;taste bb 2 0 0;taste bc 3 0 0;taste bd 0 0 0;"
            + "guest g 6 1 0 comes 0 to 23;guest h 5 2 0 comes 0 to 23;guest i 4 3 0 comes 0 to 23;may suits=looks*smell;");
        row("round(, 0)", b -> x.round(b, 0), 0, 1, 2, NONE);
        row("round(, 1)", b -> x.round(b, 1), 1, 2, 3, NONE);
        due("round(0, 1)", with(ONE).round(0, 1), 1);
        due("round(0, 1) of none liked", with(ONE + "likes 0;").round(0, 1), NONE);
    }

    @Says(promise = 18, value = "whom it holds at first (2).")
    static void roundHolds() {
        Counted x = with(beasts(3) + guests(3));
        row("round(, 2)", b -> x.round(b, 2), 0, 0, 0);
        x.change(2, 9, 9, 9);
        row("round(, 2)", b -> x.round(b, 2), 2, 2, 2);
        due("round(0, 2) of none liked", with(ONE + "likes 0;").round(0, 2), NONE);
    }

    @Says(promise = 18, value = "NONE when there is none such, or for others.")
    static void roundNone() {
        Counted x = with(TWO + "guest i 1 1 1 comes 0 to 1;");
        due("round(2, 0)", x.round(2, 0), NONE);
        due("round(0, 3)", x.round(0, 3), NONE);
        due("round(0, 4)", x.round(0, 4), NONE);
        for (int no : NO_SUCH) {
            due("round(" + no + ", 0)", x.round(no, 0), NONE);
            due("round(0, " + no + ")", x.round(0, no), NONE);
        }
        due("round(0, 0) of no beasts", new Counted().round(0, 0), NONE);
    }

    @Says(promise = 19, value = "WALK to BEASTS (bits), for so many ushers (1 .. 6): steps of the one who walks most;")
    static void walk() {
        Counted x = with("beast a wakes 0 to 1 at 1;beast b wakes 0 to 1 at 2;beast c wakes 0 to 1 at 4;beast d wakes 0 to 1 at 8;"
            + "beast e wakes 0 to 1 at 16;beast f wakes 0 to 1 at 32;");
        for (int set = 0; set < 64; set++) {
            due("walk(" + set + ", 1)", x.walk(set, 1), 2 * set);
            due("walk(" + set + ", 2)", x.walk(set, 2), 2 * Integer.highestOneBit(set));
            due("walk(" + set + ", 6)", x.walk(set, 6), 2 * Integer.highestOneBit(set));
        }
        due("walk to nobody in an empty zoo", new Counted().walk(0, 6), 0);
        due("walk() at most", with(beasts(6).replace("at 1", "at 99")).walk(63, 1), 1188);
    }

    @Says(promise = 19, value = "NONE when there are none such.")
    static void walkNone() {
        Counted x = with(beasts(3));
        due("walk(7, 1)", x.walk(7, 1), 6);
        due("walk(8, 1)", x.walk(8, 1), NONE);
        due("walk(9, 1)", x.walk(9, 1), NONE);
        for (int no : NO_SUCH) {
            due("walk(" + no + ", 1)", x.walk(no, 1), NONE);
            due("walk(1, " + no + ")", x.walk(1, no), NONE);
        }
        due("walk(1, 0)", x.walk(1, 0), NONE);
        due("walk(1, 7)", x.walk(1, 7), NONE);
        due("walk(0, 0)", x.walk(0, 0), NONE);
        due("walk(64, 1) of six", with(beasts(6)).walk(64, 1), NONE);
        due("walk(1, 1) of none", new Counted().walk(1, 1), NONE);
    }

    @Says(promise = 20, value = "The tape (it goes, refused or not) is TORN,")
    static void tornTakesTheTape() {
        Counted x = with(TWO + "likes 5;keeps 9;");
        due("torn()", x.torn(0, 0), 1);
        tapeIsEmpty("torn()", x);
        due("torn() of what never comes", x.torn(1, 0), NONE);
        tapeIsEmpty("torn() of what never comes", x);
        due("torn() of no beast", x.torn(2, 0), NONE);
        tapeIsEmpty("a refused torn()", x);
    }

    @Says(promise = 20, value = "1 to 16 rows of two bytes:")
    static void tornRows() {
        Counted x = with(TWO + "likes 5;keeps 9;");
        int[] rows = new int[32];
        for (int i = 0; i < 32; i++) {
            rows[i] = i / 2 % 2;
        }
        for (int count = 1; count <= 16; count++) {
            // a with g and b with h in each hour.
            due("torn() of " + count, x.torn(java.util.Arrays.copyOf(rows, 2 * count)), (count + 1) / 2);
        }
    }

    @Says(promise = 20, value = "the least HOURS (1 .. 100) by which all have come;")
    static void tornHours() {
        Counted x = with("beast a wakes 3 to 3 at 1;guest g 1 1 1 comes 0 to 23;likes 5;");
        due("torn() of five, in hour 3 of the fifth day", x.torn(new int[10]), 100);
        due("torn() of one", x.torn(0, 0), 4);
        x.hours(3);
        due("torn() of one now", x.torn(0, 0), 1);
        due("torn() of five", x.torn(new int[10]), 97);
        due("torn() of six", x.torn(new int[12]), NONE);
    }

    @Says(promise = 20, value = "NONE when they don't,")
    static void tornNever() {
        Counted x = with("beast a wakes 4 to 4 at 1;guest g 1 1 1 comes 0 to 23;guest h 1 1 1 comes 0 to 3;likes 5;");
        refusesNothing(x, 0, 1);
        // In the 101st hour.
        refusesNothing(x, new int[10]);
        x.toMoment(999, 23);
        refusesNothing(x, 0, 0);
        refusesNothing(with(ONE + "fears g a;"), 0, 0);
    }

    private static void refusesNothing(Counted x, int... rows) {
        due("torn() of what does not come", x.torn(rows), NONE);
        due("status(5)", x.status(5), 0);
    }

    @Says(promise = 20, value = "and, refused (5), when it is none such.")
    static void tornRefused() {
        int[][] none = {{}, {0}, {0, 0, 0}, {2, 0}, {0, 3}, {0, 0, 2, 0}, {0, 0, 0, 3}, {255, 0}, {0, 255}, new int[33], new int[34]};
        for (int[] bytes : none) {
            Counted x = with(TWO + "guest i 1 1 1 comes 0 to 23;");
            x.put(bytes);
            refused(x, 5, "torn() of " + java.util.Arrays.toString(bytes), x::torn);
        }
        // The last beast and the last guest are some.
        Counted x = with(TWO + "guest i 1 1 1 comes 0 to 23;");
        due("torn() of the last beast and guest", x.torn(1, 2), 4);
        due("status(5)", x.status(5), 0);
        Counted empty = new Counted();
        empty.put(0, 0);
        refused(empty, 5, "torn() without beasts", empty::torn);
    }
}

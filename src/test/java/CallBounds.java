/** Promises 1 to 10: a new object, the tape, the zoo, and what can be looked at. */
final class CallBounds extends Answers {
    private static final int BLANKS = 0x20202020;
    private static final int[] NO_SUCH = {-1, LEAST, GREATEST};

    private CallBounds() {
    }

    @Says(promise = 1, value = "No BEASTS, no GUESTS; the seed is 1.")
    static void newObject() {
        Counted x = new Counted();
        due("has(0)", x.has(0), 0);
        due("has(1)", x.has(1), 0);
        due("has(10)", x.has(10), 1);
        due("beast(0, 0)", x.beast(0, 0), NONE);
        due("guest(0, 0)", x.guest(0, 0), NONE);
        due("letter(0, 0, 0)", x.letter(0, 0, 0), NONE);
        due("between(0, 0, 0)", x.between(0, 0, 0), NONE);
        due("asks(0, 0)", x.asks(0, 0), NONE);
        row("has()", w -> x.has(w), 0, 0, 0, 0, 6, 0, 0, 0, 0, 0, 1, 0);
        due("hours(200)", x.hours(200), 0);
        due("chance(1)", x.chance(1), 0);
        due("has(10)", x.has(10), 1103515245 + 12345);
    }

    // ---- the tape

    @Says(promise = 2, value = "Twenty bytes come behind those on the tape, of each number the highest first:")
    static void feedBytes() {
        // 20 bytes that are a whole zoo, and 20 more.
        Counted x = new Counted();
        due("feed", x.feed(0x66656520, 0x373b7261, 0x696e2039, 0x3b757368, 0x65727320), 20);
        due("feed", x.feed(0x323b2020, BLANKS, BLANKS, BLANKS, 0x2066656f), 40);
        due("end(39)", x.end(39), true);
        due("zoo()", x.zoo(), NONE);
        due("fault(1), the word at the last three bytes", x.fault(1), 37);
        x.feed(0x66656520, 0x373b7261, 0x696e2039, 0x3b757368, 0x65727320);
        x.feed(0x323b2020, BLANKS, BLANKS, BLANKS, BLANKS);
        due("zoo()", x.zoo(), 3);
        due("has(4)", x.has(4), 2);
        // Bytes of 0, and of 128 and more: a zoo does not go on with them.
        int[] numbers = {0x00202020, 0x20802020, 0x2020ff20, 0x2020207f};
        for (int place = 0; place < 20; place++) {
            int[] n = {BLANKS, BLANKS, BLANKS, BLANKS, BLANKS};
            n[place / 4] = numbers[place % 4];
            x.feed(n[0], n[1], n[2], n[3], n[4]);
            due("zoo()", x.zoo(), NONE);
            due("fault(1)", x.fault(1), place);
        }
        // Each byte as it is: an image has all sorts of them.
        Counted y = with(ONE);
        due("on() with day 255", y.toMoment(255, 0), true);
        due("has(2)", y.has(2), 255);
    }

    @Says(promise = 2, value = "how many there are; NONE, refused (0), if there would be more than 1600.")
    static void feedFull() {
        Counted x = new Counted();
        for (int i = 1; i <= 80; i++) {
            due("feed " + i, x.feed(BLANKS, BLANKS, BLANKS, BLANKS, BLANKS), 20 * i);
        }
        refused(x, 0, "feed beyond 1600", () -> x.feed(0, 0, 0, 0, 0));
        due("end(1581)", x.end(1581), true);
        refused(x, 0, "feed beyond 1600 by one", () -> x.feed(0, 0, 0, 0, 0));
        due("end(1581), all still there", x.end(1581), true);
        due("end(1580)", x.end(1580), true);
        due("feed up to 1600", x.feed(BLANKS, BLANKS, BLANKS, BLANKS, BLANKS), 1600);
        due("zoo() of 1600 blanks", x.zoo(), 0);
        due("feed", x.feed(0, 0, 0, 0, 0), 20);
        // The last byte of a full tape counts.
        Counted y = new Counted();
        due("zoo()", y.read("fee 1;" + " ".repeat(1593) + "x"), NONE);
        due("fault(1)", y.fault(1), 1599);
        // As many signs as there can be.
        due("zoo() of 1600 signs", y.read(";".repeat(1600)), NONE);
        due("fault(1)", y.fault(1), 0);
        due("zoo() behind a full tape", y.read("fee 1;"), 1);
    }

    @Says(promise = 3, value = "The tape has its first n bytes alone: true;")
    static void endKeepsTheFirst() {
        Counted x = new Counted();
        due("end(0) of nothing", x.end(0), true);
        due("feed", x.feed(0x66656520, 0x323b6665, 0x6520373b, BLANKS, BLANKS), 20);
        due("end(20), all of it", x.end(20), true);
        due("end(12)", x.end(12), true);
        due("end(6)", x.end(6), true);
        due("zoo()", x.zoo(), 1);
        x.feed(0x66656520, 0x323b6665, 0x6520373b, BLANKS, BLANKS);
        due("end(0)", x.end(0), true);
        due("feed", x.feed(0x66656520, 0x323b2020, BLANKS, BLANKS, BLANKS), 20);
        due("end(1)", x.end(1), true);
        due("feed behind it", x.feed(0x65652032, 0x3b202020, BLANKS, BLANKS, BLANKS), 21);
        due("zoo()", x.zoo(), 1);
        // What is cut off is gone: of "fee 1;fee 99;rains 5" the end of a number, of a word, of a blank.
        int[] lengths = {11, 12, 8, 16, 17, 5, 4, 3};
        int[] places = {11, 12, 6, 13, 17, 5, 4, 3};
        for (int i = 0; i < lengths.length; i++) {
            x.feed(0x66656520, 0x313b6665, 0x65203939, 0x3b726169, 0x6e732035);
            due("end(" + lengths[i] + ")", x.end(lengths[i]), true);
            due("zoo() of " + lengths[i] + " bytes", x.zoo(), NONE);
            due("fault(1) of " + lengths[i] + " bytes", x.fault(1), places[i]);
        }
    }

    @Says(promise = 3, value = "false, refused (0), if it has not so many, or n is below 0.")
    static void endRefused() {
        Counted x = new Counted();
        refusedFlag(x, 0, "end(1) of nothing", () -> x.end(1));
        x.feed(0x66656520, 0x323b6665, 0x6520373b, BLANKS, BLANKS);
        refusedFlag(x, 0, "end(21)", () -> x.end(21));
        refusedFlag(x, 0, "end(greatest)", () -> x.end(GREATEST));
        refusedFlag(x, 0, "end(-1)", () -> x.end(-1));
        refusedFlag(x, 0, "end(least)", () -> x.end(LEAST));
        due("end(20), all still there", x.end(20), true);
        x.end(12);
        refusedFlag(x, 0, "end(13) of 12", () -> x.end(13));
        due("zoo()", x.zoo(), 2);
        refusedFlag(x, 0, "end(1) behind zoo()", () -> x.end(1));
    }

    // ---- the zoo

    @Says(promise = 4, value = "The tape (it goes, refused or not) is THE ZOO: how many STATEMENTS;")
    static void zooTakesTheTape() {
        Counted x = new Counted();
        due("zoo() of nothing", x.zoo(), 0);
        due("zoo()", x.read("fee 1;fee 2;"), 2);
        tapeIsEmpty("zoo()", x);
        due("zoo()", x.read("fee 1;fee"), NONE);
        tapeIsEmpty("a refused zoo()", x);
        due("zoo() of the empty tape", x.zoo(), 0);
    }

    @Says(promise = 4, value = "NONE, refused (1), with a FAULT (all stays).")
    static void zooRefused() {
        String[] texts = {"x", "beast a wakes 0 to 23 at 1;beast a", "taste x 1 1 1;", "fee 100;", "likes ((((((((1", "likes 1;likes 1;",
            "beast q wakes 1 to 2 at 3;guest r 9 9 9 comes 1 to 2;ushers 0;likes 7;may not all;fee"};
        for (String text : texts) {
            Counted x = with(ONE + "ushers 3;likes 5;fears g a;");
            x.seed(9);
            x.tell(0, 0);
            x.hours(3);
            x.put(text.chars().toArray());
            refused(x, 1, "zoo() of " + text, x::zoo);
            due("letter(0, 0, 0)", x.letter(0, 0, 0), 1);
            due("letter(1, 0, 0)", x.letter(1, 0, 0), 7);
            due("asks(0, 0)", x.asks(0, 0), 0);
            due("hours(1), the fee as it was", x.hours(1), 1);
            due("has(5)", x.has(5), 20);
            due("undo()", x.undo() && x.undo(), true);
            due("undo() beyond", x.undo(), false);
        }
        Counted told = with(TWO);
        told.tell(0, 1);
        told.read("x");
        due("has(11)", told.has(11), 1);
    }

    @Says(promise = 4, value = "Without one all is as at first, no row is KEPT or TOLD, no ACT can be undone; the seed stays.")
    static void zooAnew() {
        String text = TWO + "likes 5;keeps 2;ushers 5;fears h b;";
        String fresh = with(text).all();
        Counted x = with(text);
        x.tell(0, 1);
        x.change(0, 9, 9, 9);
        x.train(1, 9, 9, 9);
        x.hours(26);
        x.swap(0, 1);
        due("zoo() again", x.read(text), 8);
        due("all is as at first", x.all(), fresh);
        row("has()", w -> x.has(w), 2, 2, 0, 0, 5, 0, 2, 0, 0, 0, 1, 0);
        due("undo()", x.undo(), false);
        due("kept(0, 0)", x.kept(0, 0), NONE);
        x.seed(77);
        due("zoo()", x.read(text), 8);
        due("has(10)", x.has(10), 77);
        x.hours(1);
        due("zoo() of nothing", x.zoo(), 0);
        row("has() of nothing", w -> x.has(w), 0, 0, 0, 0, 6, 0, 0, 0, 0, 0, 77, 0);
    }

    @Says(promise = 5, value = "Of the latest zoo(): its FAULT (what 0; 0 without, and ahead of any), its place (1; NONE without).")
    static void latestFault() {
        Counted x = new Counted();
        row("fault() ahead of any", w -> x.fault(w), 0, NONE);
        x.read("fee 100;");
        row("fault() of a number", w -> x.fault(w), 4, 4);
        x.read("x");
        row("fault() at place 0", w -> x.fault(w), 1, 0);
        x.read("");
        row("fault() without", w -> x.fault(w), 0, NONE);
        x.read("fee 1;;");
        x.hours(1);
        x.tell(0, 1);
        x.feed(0, 0, 0, 0, 0);
        row("fault() behind other calls", w -> x.fault(w), 1, 6);
    }

    @Says(promise = 5, value = "NONE for another what.")
    static void otherFault() {
        Counted x = new Counted();
        x.read("fee 100;");
        for (int what : new int[] {-1, 2, 3, LEAST, GREATEST}) {
            due("fault(" + what + ")", x.fault(what), NONE);
        }
        due("status(1)", x.status(1), 1);
    }

    // ---- what there is

    @Says(promise = 6, value = "How many there are: 0 BEASTS, 1 GUESTS, 2 DAY, 3 HOUR, 4 ushers,")
    static void hasCounts() {
        Counted x = with(beasts(6) + guests(8) + "ushers 0;");
        row("has()", w -> x.has(w), 6, 8, 0, 0, 0);
        x.hours(200);
        row("has()", w -> x.has(w), 6, 8, 8, 8, 0);
        // All of them, free or not.
        Counted y = with(beasts(2) + guests(2) + "ushers 4;");
        y.hours(1);
        due("has(4)", y.has(4), 4);
    }

    @Says(promise = 6, value = "5 fees paid (9999 at most),")
    static void mostFees() {
        Counted x = with(ONE + "fee 99;fears g a;");
        x.hours(101);
        due("has(5) of 101 times 99", x.has(5), 9999);
        x.hours(1);
        due("has(5) of 102 times 99", x.has(5), 9999);
        // To 9999, and from below it beyond it.
        for (int fee = 1; fee <= 3; fee++) {
            Counted y = with(ONE + "fee " + fee + ";fears g a;");
            y.become(3, 39, 4, 13);
            due("has(5)", y.has(5), 9997);
            y.hours(1);
            due("has(5) from 9997 by " + fee, y.has(5), Math.min(9999, 9997 + fee));
        }
    }

    @Says(promise = 6, value = "6 GUESTS that are there now,")
    static void guestsThere() {
        Counted x = with("guest g 1 1 1 comes 0 to 0;guest h 1 1 1 comes 0 to 1;guest i 1 1 1 comes 1 to 23;guest j 1 1 1 comes 23 to 23;");
        int[] want = new int[24];
        java.util.Arrays.fill(want, 1);
        want[0] = 2;
        want[1] = 2;
        want[23] = 2;
        for (int hour = 0; hour < 24; hour++) {
            due("has(6) in hour " + hour, x.has(6), want[hour]);
            x.hours(1);
        }
        due("has(6) of all", with(guests(8)).has(6), 8);
        due("has(6) of none", with(beasts(1)).has(6), 0);
        // Who is kept is there, who is gone is kept.
        Counted kept = with("beast a wakes 0 to 23 at 1;guest g 1 1 1 comes 0 to 2;likes 5;keeps 2;");
        kept.hours(2);
        due("has(6) of one kept", kept.has(6), 1);
        kept.hours(1);
        due("has(6) of one gone", kept.has(6), 0);
        due("has(7) of one gone", kept.has(7), 1);
    }

    @Says(promise = 6, value = "7 GUESTS KEPT, 8 rows KEPT, 9 ACTS that can be undone, 10 the seed, 11 rows TOLD.")
    static void hasMore() {
        Counted x = with(beasts(6) + guests(8) + "likes 5;keeps 2;");
        int[] first = {0, 0, 0, 1, 0};
        row("has(7 and on)", w -> x.has(7 + w), first);
        x.hours(1);
        row("has(7 and on)", w -> x.has(7 + w), 0, 6, 1, 1, 0);
        x.hours(1);
        row("has(7 and on)", w -> x.has(7 + w), 6, 12, 2, 1, 0);
        x.hours(2);
        // Two are left: two beasts have seen and kept them, too.
        row("has(7 and on)", w -> x.has(7 + w), 8, 16, 3, 1, 0);
        x.hours(200);
        row("has(7 and on) at most", w -> x.has(7 + w), 8, 60, 4, 1, 0);
        for (int i = 0; i < 20; i++) {
            x.change(0, i % 2, 9, 9);
        }
        x.seed(GREATEST);
        x.tell(new int[] {0, 1, 1, 0, 0, 1, 1, 0, 0, 1, 1, 0, 0, 1, 1, 0, 0, 1, 1, 0, 0, 1, 1, 0, 0, 1, 1, 0, 0, 1, 7, 6});
        row("has(7 and on) at most", w -> x.has(7 + w), 8, 60, 20, GREATEST, 16);
    }

    @Says(promise = 6, value = "NONE for others.")
    static void hasNoOther() {
        Counted x = with(ONE);
        for (int what : new int[] {-1, 12, 13, LEAST, GREATEST}) {
            due("has(" + what + ")", x.has(what), NONE);
        }
    }

    @Says(promise = 7, value = "Letter k (0 .. 5) of the NAME of a BEAST (kind 0), a GUEST (1): 1 .. 26;")
    static void letters() {
        Counted x = with("beast azbycx wakes 0 to 1 at 1;beast m wakes 0 to 1 at 1;guest zzzzzz 1 1 1 comes 1 to 1;"
            + "guest aaaaaa 1 1 1 comes 1 to 1;");
        row("letter(0, 0)", k -> x.letter(0, 0, k), 1, 26, 2, 25, 3, 24);
        row("letter(1, 0)", k -> x.letter(1, 0, k), 26, 26, 26, 26, 26, 26);
        row("letter(1, 1)", k -> x.letter(1, 1, k), 1, 1, 1, 1, 1, 1);
        due("letter(0, 1, 0)", x.letter(0, 1, 0), 13);
    }

    @Says(promise = 7, value = "0 behind it;")
    static void behindTheName() {
        StringBuilder text = new StringBuilder();
        String name = "";
        for (int length = 1; length <= 6; length++) {
            name += "z";
            text.append("beast ").append(name).append(" wakes 0 to 1 at 1;");
        }
        Counted x = with(text.toString());
        for (int length = 1; length <= 6; length++) {
            for (int k = 0; k < 6; k++) {
                due("letter(0, " + (length - 1) + ", " + k + ")", x.letter(0, length - 1, k), k < length ? 26 : 0);
            }
        }
    }

    @Says(promise = 7, value = "NONE when there is none such.")
    static void noSuchLetter() {
        Counted x = with(TWO + "guest i 1 1 1 comes 0 to 1;");
        for (int no : NO_SUCH) {
            due("letter(" + no + ", 0, 0)", x.letter(no, 0, 0), NONE);
            due("letter(0, " + no + ", 0)", x.letter(0, no, 0), NONE);
            due("letter(1, " + no + ", 0)", x.letter(1, no, 0), NONE);
            due("letter(0, 0, " + no + ")", x.letter(0, 0, no), NONE);
        }
        due("letter(2, 0, 0)", x.letter(2, 0, 0), NONE);
        due("letter(0, 0, 6)", x.letter(0, 0, 6), NONE);
        due("letter(1, 0, 6)", x.letter(1, 0, 6), NONE);
        due("letter(0, 1, 0)", x.letter(0, 1, 0), 2);
        due("letter(0, 2, 0)", x.letter(0, 2, 0), NONE);
        due("letter(1, 2, 0)", x.letter(1, 2, 0), 9);
        due("letter(1, 3, 0)", x.letter(1, 3, 0), NONE);
    }

    @Says(promise = 8, value = "Of a BEAST: 0 from which HOUR it is awake, 1 to which, 2 its PLACE, 3, 4, 5 its tastes, "
        + "6 whether it is awake now,")
    static void beastTells() {
        Counted x = with("beast a wakes 0 to 23 at 99;beast b wakes 1 to 1 at 0;taste a 0 9 5;");
        row("beast(0)", w -> x.beast(0, w), 0, 23, 99, 0, 9, 5, 1);
        row("beast(1)", w -> x.beast(1, w), 1, 1, 0, 1, 1, 1, 0);
        x.hours(1);
        due("beast(1, 6)", x.beast(1, 6), 1);
        x.hours(1);
        due("beast(1, 6)", x.beast(1, 6), 0);
    }

    @Says(promise = 8, value = "7 the GUEST whom it has KEPT (the first; NONE).")
    static void firstKept() {
        // h is kept in hour 1, g in hour 4, i by b in hour 1.
        Counted x = with(beasts(2) + "guest g 1 1 1 comes 3 to 23;guest h 1 1 1 comes 0 to 23;guest i 1 1 1 comes 0 to 23;"
            + "likes 5;keeps 2;");
        due("beast(0, 7) at first", x.beast(0, 7), NONE);
        x.hours(1);
        due("beast(0, 7) of one seen", x.beast(0, 7), NONE);
        x.hours(1);
        due("beast(0, 7)", x.beast(0, 7), 1);
        due("beast(1, 7)", x.beast(1, 7), 2);
        x.hours(3);
        due("beast(0, 7) of two, the first", x.beast(0, 7), 0);
        due("guest(1, 7), kept too", x.guest(1, 7), 0);
        due("beast(1, 7)", x.beast(1, 7), 2);
        due("beast(5, 7) of all that can be", with(beasts(6) + guests(8)).beast(5, 7), NONE);
    }

    @Says(promise = 8, value = "NONE when there is none such, or for others.")
    static void noSuchBeast() {
        Counted x = with(TWO + "guest i 1 1 1 comes 0 to 1;");
        for (int no : NO_SUCH) {
            due("beast(" + no + ", 0)", x.beast(no, 0), NONE);
            due("beast(0, " + no + ")", x.beast(0, no), NONE);
        }
        due("beast(2, 0)", x.beast(2, 0), NONE);
        due("beast(2, 6)", x.beast(2, 6), NONE);
        due("beast(0, 8)", x.beast(0, 8), NONE);
        due("beast(1, 8)", x.beast(1, 8), NONE);
    }

    @Says(promise = 9, value = "Of a GUEST: 0, 1, 2 LOOKS, SMELL, TALK, 3 from which HOUR he is there, 4 to which, 5 "
        + "whom he fears (bits of BEASTS),")
    static void guestTells() {
        Counted x = with(beasts(6) + "guest g 0 9 5 comes 0 to 23;guest h 9 0 4 comes 7 to 7;guest i 1 1 1 comes 23 to 23;"
            + "fears g ba;fears h bf;fears i ba;fears i bb;fears i bc;fears i bd;fears i be;fears i bf;");
        row("guest(0)", w -> x.guest(0, w), 0, 9, 5, 0, 23, 1);
        row("guest(1)", w -> x.guest(1, w), 9, 0, 4, 7, 7, 32);
        row("guest(2)", w -> x.guest(2, w), 1, 1, 1, 23, 23, 63);
        due("guest(0, 5) of no fear", with(ONE).guest(0, 5), 0);
    }

    @Says(promise = 9, value = "6 by whom he is SENT BACK (bits of BEASTS),")
    static void sentBackBits() {
        Counted x = with(beasts(6) + guests(1) + "ushers 6;bores 99;");
        due("guest(0, 6) at first", x.guest(0, 6), 0);
        // Each hour the next one is bored of him.
        for (int b = 0; b < 6; b++) {
            x.hours(1);
            due("guest(0, 6) behind hour " + b, x.guest(0, 6), (2 << b) - 1);
        }
        x.hours(1);
        due("guest(0, 6)", x.guest(0, 6), 63);
    }

    @Says(promise = 9, value = "7 by whom KEPT (NONE).")
    static void keptBy() {
        Counted x = with("beast a wakes 9 to 9 at 1;beast b wakes 0 to 23 at 1;" + guests(2) + "likes 5;keeps 2;");
        due("guest(0, 7) at first", x.guest(0, 7), NONE);
        x.hours(1);
        due("guest(0, 7) of one seen", x.guest(0, 7), NONE);
        x.hours(1);
        due("guest(0, 7)", x.guest(0, 7), 1);
        due("guest(1, 7)", x.guest(1, 7), NONE);
        Counted first = with(ONE + "likes 5;keeps 2;");
        first.hours(2);
        due("guest(0, 7) by the first", first.guest(0, 7), 0);
        due("beast(0, 7) of the first", first.beast(0, 7), 0);
    }

    @Says(promise = 9, value = "NONE when there is none such, or for others.")
    static void noSuchGuest() {
        Counted x = with(TWO + "beast c wakes 0 to 1 at 1;");
        for (int no : NO_SUCH) {
            due("guest(" + no + ", 0)", x.guest(no, 0), NONE);
            due("guest(0, " + no + ")", x.guest(0, no), NONE);
        }
        due("guest(2, 0)", x.guest(2, 0), NONE);
        due("guest(2, 5)", x.guest(2, 5), NONE);
        due("guest(0, 8)", x.guest(0, 8), NONE);
        due("guest(1, 8)", x.guest(1, 8), NONE);
    }

    @Says(promise = 10, value = "Of a BEAST and a GUEST now: 0 what suits, 1 how it likes him, 2 how often it SAW him "
        + "in all, 3 on this DAY.")
    static void betweenTells() {
        Counted x = with("beast a wakes 0 to 23 at 1;beast b wakes 9 to 9 at 1;taste a 9 9 9;taste b 0 0 2;"
            + "guest g 9 9 9 comes 0 to 23;guest h 4 4 4 comes 9 to 9;fears h a;keeps 9;");
        row("between(0, 0)", w -> x.between(0, 0, w), 243, 243, 0, 0);
        // Also asleep, not there, feared.
        row("between(1, 1)", w -> x.between(1, 1, w), 8, 8, 0, 0);
        row("between(0, 1)", w -> x.between(0, 1, w), 108, 108, 0, 0);
        x.hours(2);
        row("between(0, 0)", w -> x.between(0, 0, w), 243, 81, 2, 2);
        x.hours(23);
        row("between(0, 0) on the next day", w -> x.between(0, 0, w), 243, 22, 10, 1);
        // Now: as it has changed.
        x.change(0, 0, 0, 1);
        row("between(0, 0), changed", w -> x.between(0, 0, w), 9, 0, 10, 1);
        x.train(0, 0, 0, 0);
        row("between(0, 0), changed", w -> x.between(0, 0, w), 0, 0, 10, 1);
    }

    @Says(promise = 10, value = "NONE when there are none such, or for others.")
    static void noSuchPair() {
        Counted x = with(TWO + "guest i 1 1 1 comes 0 to 1;");
        for (int no : NO_SUCH) {
            due("between(" + no + ", 0, 0)", x.between(no, 0, 0), NONE);
            due("between(0, " + no + ", 0)", x.between(0, no, 0), NONE);
            due("between(0, 0, " + no + ")", x.between(0, 0, no), NONE);
        }
        due("between(1, 2, 0)", x.between(1, 2, 0), 3);
        due("between(2, 1, 0)", x.between(2, 1, 0), NONE);
        due("between(1, 3, 0)", x.between(1, 3, 0), NONE);
        due("between(0, 0, 4)", x.between(0, 0, 4), NONE);
        due("between(2, 3, 4)", x.between(2, 3, 4), NONE);
    }
}

/** Promises 21 to 32: the acts, the rows, the images, and what was refused. */
final class ActCallBounds extends Answers {
    private static final int[] NO_SUCH = {-1, LEAST, GREATEST};

    private ActCallBounds() {
    }

    // ---- acts

    @Says(promise = 21, value = "n HOURS go by (1 .. 200), without DRAWS: how many ASKINGS there were;")
    static void hours() {
        Counted x = with(ONE + "likes 5;keeps 9;rain 100;");
        due("hours(1)", x.hours(1), 1);
        due("hours(200), nine a day", x.hours(200), 8 + 7 * 9 + 9);
        due("has(2)", x.has(2), 8);
        due("has(3)", x.has(3), 9);
        due("has(10)", x.has(10), 1);
        due("has(9)", x.has(9), 2);
        // Refused ones are askings.
        due("hours(200) of who refuses", with(ONE + "fears g a;").hours(200), 200);
        due("hours(200) at most", with(beasts(6) + guests(6) + "likes 5;bores 0;keeps 9;").hours(200), 6 * 9 * 9 - 6);
        due("hours(200) without beasts", new Counted().hours(200), 0);
    }

    @Says(promise = 21, value = "NONE, refused (2), when that can't be (beyond DAY 999).")
    static void hoursRefused() {
        for (int n : new int[] {0, -1, 201, LEAST, GREATEST}) {
            Counted x = with(ONE);
            x.hours(1);
            refused(x, 2, "hours(" + n + ")", () -> x.hours(n));
        }
        Counted x = with(ONE + "fears g a;");
        x.toMoment(999, 20);
        refused(x, 2, "hours(4) beyond day 999", () -> x.hours(4));
        due("hours(3), up to hour 23", x.hours(3), 3);
        refused(x, 2, "hours(1) beyond day 999", () -> x.hours(1));
        Counted y = with(ONE + "fears g a;");
        y.toMoment(991, 15);
        refused(y, 2, "hours(201)", () -> y.hours(201));
        due("hours(200), up to day 999, hour 23", y.hours(200), 200);
        due("has(2)", y.has(2), 999);
        due("has(3)", y.has(3), 23);
        Counted z = with(ONE + "fears g a;");
        z.toMoment(991, 16);
        refused(z, 2, "hours(200) beyond day 999 by one", () -> z.hours(200));
    }

    @Says(promise = 22, value = "n HOURS by the seed (1 .. 200), one ACT: in how many it rained;")
    static void chance() {
        Counted x = with(ONE + "likes 5;keeps 9;rain 100;");
        due("chance(1)", x.chance(1), 1);
        due("chance(200) in rain", x.chance(200), 200);
        due("has(2)", x.has(2), 8);
        due("has(3)", x.has(3), 9);
        due("has(8)", x.has(8), 0);
        due("has(9), an act each", x.has(9), 2);
        due("undo()", x.undo(), true);
        due("has(3) behind undo()", x.has(3), 1);
        Counted dry = with(ONE + "likes 5;keeps 9;");
        due("chance(200) without rain", dry.chance(200), 0);
        due("has(8)", dry.has(8), 60);
        due("has(9)", dry.has(9), 1);
        // Some and some: of 200 hours each is one of rain or one of an asking.
        Counted some = with(ONE + "fears g a;fee 1;rain 40;");
        int rained = some.chance(200);
        due("some rain", rained > 0 && rained < 200, true);
        due("has(5), fees of the other hours", some.has(5), 200 - rained);
    }

    @Says(promise = 22, value = "NONE, refused (2), when that can't be.")
    static void chanceRefused() {
        for (int n : new int[] {0, -1, 201, LEAST, GREATEST}) {
            Counted x = with(ONE + "rain 50;");
            x.seed(5);
            refused(x, 2, "chance(" + n + ")", () -> x.chance(n));
            due("has(10), no draw", x.has(10), 5);
        }
        Counted x = with(ONE + "rain 50;");
        x.toMoment(999, 20);
        refused(x, 2, "chance(4) beyond day 999", () -> x.chance(4));
        due("chance(3), up to hour 23", x.chance(3) >= 0, true);
        due("has(3)", x.has(3), 23);
        refused(x, 2, "chance(1) beyond day 999", () -> x.chance(1));
        Counted y = with(ONE + "rain 100;");
        y.toMoment(991, 15);
        due("chance(200), up to day 999, hour 23", y.chance(200), 200);
        refused(y, 2, "chance(1) beyond day 999", () -> y.chance(1));
    }

    @Says(promise = 23, value = "A GUEST changes LOOKS, SMELL, TALK (0 .. 9 each): true;")
    static void change() {
        Counted x = with(TWO);
        due("change to 0 9 0", x.change(1, 0, 9, 0), true);
        row("guest(1)", w -> x.guest(1, w), 0, 9, 0);
        due("change to 9 0 9", x.change(1, 9, 0, 9), true);
        row("guest(1)", w -> x.guest(1, w), 9, 0, 9);
        row("guest(0) stays", w -> x.guest(0, w), 1, 1, 1);
        // One of the three is enough.
        due("change of looks", x.change(1, 8, 0, 9), true);
        due("change of smell", x.change(1, 8, 1, 9), true);
        due("change of talk", x.change(1, 8, 1, 8), true);
        row("guest(1)", w -> x.guest(1, w), 8, 1, 8);
        due("has(9)", x.has(9), 5);
    }

    @Says(promise = 23, value = "false, refused (3), when that can't be, or all are so already.")
    static void changeRefused() {
        int[][] none = {{0, -1, 1, 2}, {0, 10, 1, 2}, {0, 1, -1, 2}, {0, 1, 10, 2}, {0, 1, 2, -1}, {0, 1, 2, 10}, {0, LEAST, 1, 2},
            {0, 1, 2, GREATEST},
            {2, 2, 2, 2}, {-1, 2, 2, 2}, {LEAST, 2, 2, 2}, {GREATEST, 2, 2, 2}, {0, 1, 1, 1}, {1, 0, 9, 3}};
        for (int[] n : none) {
            Counted x = with(TWO + "beast c wakes 0 to 1 at 1;");
            x.change(1, 0, 9, 3);
            refusedFlag(x, 3, "change " + java.util.Arrays.toString(n), () -> x.change(n[0], n[1], n[2], n[3]));
        }
        Counted empty = new Counted();
        refusedFlag(empty, 3, "change without guests", () -> empty.change(0, 1, 1, 1));
    }

    @Says(promise = 24, value = "Tastes of a BEAST change (0 .. 9 each): true;")
    static void train() {
        Counted x = with(TWO);
        due("train to 0 9 0", x.train(1, 0, 9, 0), true);
        row("beast(1, 3 and on)", w -> x.beast(1, 3 + w), 0, 9, 0);
        due("train to 9 0 9", x.train(1, 9, 0, 9), true);
        row("beast(1, 3 and on)", w -> x.beast(1, 3 + w), 9, 0, 9);
        row("beast(0, 3 and on) stays", w -> x.beast(0, 3 + w), 1, 1, 1);
        due("train of looks", x.train(1, 8, 0, 9), true);
        due("train of smell", x.train(1, 8, 1, 9), true);
        due("train of talk", x.train(1, 8, 1, 8), true);
        row("beast(1, 3 and on)", w -> x.beast(1, 3 + w), 8, 1, 8);
        due("has(9)", x.has(9), 5);
    }

    @Says(promise = 24, value = "false, refused (3), when that can't be, or all are so already.")
    static void trainRefused() {
        int[][] none = {{0, -1, 1, 2}, {0, 10, 1, 2}, {0, 1, -1, 2}, {0, 1, 10, 2}, {0, 1, 2, -1}, {0, 1, 2, 10}, {0, LEAST, 1, 2},
            {0, 1, 2, GREATEST},
            {2, 2, 2, 2}, {-1, 2, 2, 2}, {LEAST, 2, 2, 2}, {GREATEST, 2, 2, 2}, {0, 1, 1, 1}, {1, 0, 9, 3}};
        for (int[] n : none) {
            Counted x = with(TWO + "guest i 1 1 1 comes 0 to 1;");
            x.train(1, 0, 9, 3);
            refusedFlag(x, 3, "train " + java.util.Arrays.toString(n), () -> x.train(n[0], n[1], n[2], n[3]));
        }
        Counted empty = new Counted();
        refusedFlag(empty, 3, "train without beasts", () -> empty.train(0, 1, 1, 2));
    }

    @Says(promise = 25, value = "Two BEASTS swap what they know: true;")
    static void swap() {
        Counted x = with(beasts(3) + guests(8) + "likes 5;keeps 9;");
        x.hours(26);
        x.become(5 + 40 + 3 + 14, 99, 5 + 40 + 3 + 15, 98);
        due("a knows the last one", x.between(0, 7, 2), 99);
        due("swap(0, 2)", x.swap(0, 2), true);
        due("c knows the last one", x.between(2, 7, 2), 99);
        due("c knows the last one on this day", x.between(2, 7, 3), 98);
        due("c knows the first one", x.between(2, 0, 2), 11);
        due("c knows the first one on this day", x.between(2, 0, 3), 2);
        due("a knows the third one", x.between(0, 2, 2), 11);
        due("a knows the third one on this day", x.between(0, 2, 3), 2);
        due("a knows the last one no more", x.between(0, 7, 2), 0);
        due("b knows what it knew", x.between(1, 1, 2), 11);
        due("swap(2, 0) back", x.swap(2, 0), true);
        due("a knows the last one", x.between(0, 7, 2), 99);
        due("a knows the last one on this day", x.between(0, 7, 3), 98);
        due("a knows the first one on this day", x.between(0, 0, 3), 2);
        due("c knows the third one on this day", x.between(2, 2, 3), 2);
        due("swap(1, 2)", x.swap(1, 2), true);
        due("c knows the second one", x.between(2, 1, 2), 11);
        due("c knows the second one on this day", x.between(2, 1, 3), 2);
        due("b knows the third one on this day", x.between(1, 2, 3), 2);
        due("b knows the second one on this day no more", x.between(1, 1, 3), 0);
        due("has(9)", x.has(9), 3);
    }

    @Says(promise = 25, value = "false, refused (3), when there are none such, or they are one.")
    static void swapRefused() {
        int[][] none = {{0, 0}, {1, 1}, {0, 2}, {2, 0}, {2, 2}, {-1, 0}, {0, -1}, {-1, -1}, {LEAST, 0}, {1, GREATEST}};
        for (int[] n : none) {
            Counted x = with(TWO + "guest i 1 1 1 comes 0 to 1;");
            x.hours(3);
            refusedFlag(x, 3, "swap" + java.util.Arrays.toString(n), () -> x.swap(n[0], n[1]));
        }
        Counted empty = new Counted();
        refusedFlag(empty, 3, "swap without beasts", () -> empty.swap(0, 1));
    }

    @Says(promise = 26, value = "The latest ACT is undone: all that ACTS change is as it was ahead of it (but the seed): true;")
    static void undo() {
        // Hours over a day's end, with fees, with those who are kept and sent back, with more than 60 rows.
        String text = "beast a wakes 0 to 23 at 1;beast b wakes 0 to 23 at 1;guest g 1 1 1 comes 0 to 23;guest h 2 1 1 comes 0 to 23;"
            + "fears g b;likes if(saw<40,suits,saw);bores 3;keeps 3;rain 30;";
        String[] acts = {"hours", "chance", "change", "train", "swap"};
        for (String act : acts) {
            Counted x = with(text);
            x.hours(1);
            String first = knows(x);
            x.hours(21);
            String before = knows(x);
            due("has(7) ahead", x.has(7) > 0, true);
            switch (act) {
                case "hours": x.hours(200); break;
                case "chance": x.chance(200); break;
                case "change": x.change(0, 9, 8, 7); break;
                case "train": x.train(0, 9, 8, 7); break;
                default: x.swap(0, 1);
            }
            int seed = x.has(10);
            due(act + " changes something", knows(x).equals(before), false);
            due("undo() of " + act, x.undo(), true);
            due("all is as ahead of " + act, knows(x), before);
            due("the seed stays as it is behind " + act, x.has(10), seed);
            due("the seed has changed", seed != 1, act.equals("chance"));
            due("has(9)", x.has(9), 2);
            due("undo() of the hours ahead", x.undo(), true);
            due("all is as ahead of them", knows(x), first);
        }
    }

    /** All that acts change: an image, and the rows. */
    private static String knows(Counted x) {
        StringBuilder s = new StringBuilder(java.util.Arrays.toString(x.picture()));
        int rows = x.has(8);
        s.append(rows);
        for (int k = 0; k < rows; k += 7) {
            for (int w = 0; w <= 4; w++) {
                s.append(' ').append(x.kept(k, w));
            }
        }
        return s.toString();
    }

    @Says(promise = 26, value = "false, refused (4), when none can be.")
    static void undoRefused() {
        Counted x = new Counted();
        refusedFlag(x, 4, "undo() of nothing", x::undo);
        x.read(ONE);
        refusedFlag(x, 4, "undo() behind zoo()", x::undo);
        x.hours(1);
        due("undo()", x.undo(), true);
        refusedFlag(x, 4, "undo() of the same once more", x::undo);
        // What was refused, and what only looks, can't be undone.
        Counted y = with(ONE);
        y.hours(0);
        y.chance(201);
        y.change(0, 1, 1, 1);
        y.train(0, 1, 1, 1);
        y.swap(0, 0);
        y.seed(7);
        y.asks(0, 50);
        y.image();
        refusedFlag(y, 4, "undo() of what is no act", y::undo);
        due("has(10)", y.has(10), 7);
        y.hours(2);
        y.toMoment(3, 3);
        refusedFlag(y, 4, "undo() behind on()", y::undo);
        y.hours(2);
        y.read("x");
        due("undo() behind a refused zoo()", y.undo(), true);
        y.hours(2);
        y.read(ONE);
        due("undo() behind zoo()", y.undo(), false);
    }

    @Says(promise = 27, value = "The seed: true;")
    static void seed() {
        Counted x = with(ONE);
        for (int seed : new int[] {0, 1, 2, GREATEST - 1, GREATEST}) {
            due("seed(" + seed + ")", x.seed(seed), true);
            due("has(10)", x.has(10), seed);
            x.chance(1);
            due("has(10) behind a draw", x.has(10), (int) ((1103515245L * seed + 12345) % (1L << 31)));
        }
        due("the same seed once more", x.seed(x.has(10)), true);
    }

    @Says(promise = 27, value = "false, refused (5), when it is below 0.")
    static void seedRefused() {
        for (int seed : new int[] {-1, -2, LEAST}) {
            Counted x = with(ONE);
            x.seed(9);
            refusedFlag(x, 5, "seed(" + seed + ")", () -> x.seed(seed));
            due("has(10)", x.has(10), 9);
        }
    }

    @Says(promise = 28, value = "Of the k-th row that is KEPT, from the oldest on: 0 DAY, 1 HOUR, 2 BEAST, 3 GUEST, 4 what became of it.")
    static void kept() {
        Counted x = with(beasts(6) + guests(8) + "fears ga ba;likes 5;keeps 9;");
        x.toMoment(998, 23);
        x.hours(1);
        x.hours(1);
        for (int k = 0; k < 12; k++) {
            int r = k;
            row("kept(" + k + ")", w -> x.kept(r, w), k < 6 ? 998 : 999, k < 6 ? 23 : 0, k % 6, k % 6, k % 6 == 0 ? 0 : 1);
        }
        // The latest hour that can go by.
        Counted y = with("beast a wakes 0 to 23 at 1;" + guests(7) + "guest z 9 9 9 comes 0 to 23;keeps 2;");
        y.toMoment(999, 22);
        y.hours(1);
        row("kept(0)", w -> y.kept(0, w), 999, 22, 0, 7, 1);
    }

    @Says(promise = 28, value = "NONE when there is none such, or for others.")
    static void keptNone() {
        Counted x = with(ONE + "fears g a;");
        due("kept(0, 0) of none", x.kept(0, 0), NONE);
        x.hours(2);
        due("kept(1, 1)", x.kept(1, 1), 1);
        due("kept(2, 1)", x.kept(2, 1), NONE);
        due("kept(0, 5)", x.kept(0, 5), NONE);
        for (int no : NO_SUCH) {
            due("kept(" + no + ", 0)", x.kept(no, 0), NONE);
            due("kept(0, " + no + ")", x.kept(0, no), NONE);
        }
        x.hours(100);
        due("kept(59, 0)", x.kept(59, 0), 4);
        due("kept(60, 0)", x.kept(60, 0), NONE);
        x.undo();
        due("kept(2, 1) behind undo()", x.kept(2, 1), NONE);
        x.become();
        due("kept(0, 0) behind on()", x.kept(0, 0), NONE);
    }

    // ---- images, refusals

    @Says(promise = 29, value = "AN IMAGE is written: how many bytes.")
    static void image() {
        due("image() of nothing", new Counted().image(), 6);
        due("image() of one beast", with(beasts(1)).image(), 9);
        due("image() of one guest", with(guests(1)).image(), 11);
        due("image() of one each", with(ONE).image(), 16);
        Counted most = with(beasts(6) + guests(8));
        due("image() of all that there can be", most.image(), 6 + 8 * 5 + 6 * (3 + 16));
        due("octet() of its last byte", most.octet(159) >= 0, true);
        due("octet() behind it", most.octet(160), NONE);
        // It is no act, and changes nothing.
        Counted x = with(ONE);
        x.hours(1);
        String before = x.all();
        x.image();
        due("all behind image()", x.all(), before);
    }

    @Says(promise = 30, value = "Byte k of the latest image();")
    static void octets() {
        Counted x = with(ONE + "fears g a;fee 77;");
        x.hours(2);
        x.image();
        int[] want = {0, 0, 2, 0, 154, 1, 1, 1, 0, 0, 1, 1, 1, 0, 0, 0};
        want = Counted.checked(want);
        for (int k = 0; k < want.length; k++) {
            due("octet(" + k + ")", x.octet(k), want[k]);
        }
        // The latest one, not how things are now.
        x.hours(1);
        due("octet(2)", x.octet(2), 2);
        x.image();
        due("octet(2)", x.octet(2), 3);
        due("octet(3)", x.octet(3), 0);
        due("octet(4)", x.octet(4), 231);
        x.undo();
        due("octet(2) behind undo()", x.octet(2), 3);
    }

    @Says(promise = 30, value = "NONE when there is none such.")
    static void octetNone() {
        Counted x = new Counted();
        due("octet(0) ahead of any image()", x.octet(0), NONE);
        x.image();
        due("octet(0)", x.octet(0), 0);
        due("octet(5)", x.octet(5) >= 0, true);
        due("octet(6)", x.octet(6), NONE);
        for (int no : NO_SUCH) {
            due("octet(" + no + ")", x.octet(no), NONE);
        }
        x.read(ONE);
        x.image();
        due("octet(15)", x.octet(15) >= 0, true);
        due("octet(16)", x.octet(16), NONE);
        // A shorter one has no bytes of the longer one ahead.
        x.read("");
        x.image();
        due("octet(6)", x.octet(6), NONE);
    }

    @Says(promise = 31, value = "The tape (it goes, refused or not) is AN IMAGE of this ZOO: true,")
    static void onTakesTheTape() {
        Counted x = with(ONE);
        due("on()", x.become(), true);
        tapeIsEmpty("on()", x);
        x.put(1, 2, 3);
        due("on() of none", x.on(), false);
        tapeIsEmpty("a refused on()", x);
        due("on() of the empty tape", x.on(), false);
        // An image of a zoo of another size is none of this one.
        int[] picture = x.picture();
        for (String other : new String[] {beasts(1), guests(1), TWO, ""}) {
            Counted y = with(other);
            y.put(picture);
            due("on() of another zoo", y.on(), false);
        }
        Counted like = with("beast q wakes 1 to 2 at 3;guest r 9 9 9 comes 4 to 5;");
        like.put(picture);
        due("on() of a zoo of the same size", like.on(), true);
    }

    @Says(promise = 31, value = "all is as it tells, no row is KEPT, no ACT can be undone;")
    static void onTells() {
        Counted x = with(TWO + "likes 5;");
        x.tell(0, 1);
        x.seed(33);
        x.hours(3);
        x.change(0, 7, 7, 7);
        x.train(0, 7, 7, 7);
        int[] bytes = Counted.checked(3, 231, 23, 39, 15, 9, 8, 0, 2, 0, 0, 2, 9, 0, 3, 4, 9, 0, 99, 99, 1, 0, 0, 8, 9, 0, 0, 12, 3, 0);
        x.put(bytes);
        due("on()", x.on(), true);
        row("has()", w -> x.has(w), 2, 2, 999, 23, 6, 9999, 2, 1, 0, 0, 33, 1);
        row("guest(0)", w -> x.guest(0, w), 9, 8, 0, 0, 23, 0, 0, 1);
        row("guest(1)", w -> x.guest(1, w), 0, 2, 9, 0, 23, 0, 3, NONE);
        row("beast(0)", w -> x.beast(0, w), 0, 23, 1, 4, 9, 0, 1, NONE);
        row("beast(1)", w -> x.beast(1, w), 0, 23, 2, 0, 8, 9, 1, 0);
        due("between(0, 0, 2)", x.between(0, 0, 2), 99);
        due("between(0, 0, 3)", x.between(0, 0, 3), 99);
        due("between(0, 1, 2)", x.between(0, 1, 2), 1);
        due("between(0, 1, 3)", x.between(0, 1, 3), 0);
        due("between(1, 1, 2)", x.between(1, 1, 2), 12);
        due("between(1, 1, 3)", x.between(1, 1, 3), 3);
        due("kept(0, 0)", x.kept(0, 0), NONE);
        due("undo()", x.undo(), false);
        due("image()", x.image(), bytes.length);
        for (int k = 0; k < bytes.length; k++) {
            due("octet(" + k + ")", x.octet(k), bytes[k]);
        }
        // No row of hours ahead is kept either.
        Counted ahead = with(ONE + "fears g a;");
        ahead.hours(2);
        ahead.asks(0, 50);
        ahead.alone(0);
        due("on()", ahead.become(), true);
        due("has(8) behind on()", ahead.has(8), 0);
        due("kept(0, 0) behind on()", ahead.kept(0, 0), NONE);
        // What the image tells goes on: sent back and kept as long as it is that day.
        due("asks(0, 0)", x.asks(0, 0), NONE);
        due("asks(1, 0)", x.asks(1, 0), NONE);
        due("no fee is above 9999", x.has(5), 9999);
    }

    /** Whether an image of two beasts and a guest is read, in which some bytes are others. */
    private static boolean reads(int... changes) {
        int[] bytes = {0, 3, 7, 1, 2, 4, 5, 6, 0, 0, 7, 8, 9, 50, 20, 1, 2, 3, 4, 4, 0};
        for (int i = 0; i < changes.length; i += 2) {
            bytes[changes[i]] = changes[i + 1];
        }
        Counted x = with(beasts(2) + guests(1));
        x.put(Counted.checked(bytes));
        boolean good = x.on();
        due("status(5)", x.status(5), good ? 0 : 1);
        due("has(2)", x.has(2), good ? bytes[0] * 256 + bytes[1] : 0);
        due("guest(0, 0)", x.guest(0, 0), good ? bytes[5] : 1);
        return good;
    }

    private static void good(int... changes) {
        due("on() with " + java.util.Arrays.toString(changes), reads(changes), true);
    }

    private static void bad(int... changes) {
        due("on() with " + java.util.Arrays.toString(changes), reads(changes), false);
    }

    @Says(promise = 31, value = "false, refused (5), all staying, if it is none such")
    static void onRefused() {
        Counted x = with(ONE + "likes 5;");
        x.hours(2);
        int[] bytes = x.picture();
        int[][] none = {{}, {0}, java.util.Arrays.copyOf(bytes, 15), java.util.Arrays.copyOf(bytes, 17), new int[16],
            Counted.checked(java.util.Arrays.copyOf(bytes, 15)), Counted.checked(java.util.Arrays.copyOf(bytes, 17))};
        for (int[] n : none) {
            Counted y = with(ONE + "likes 5;");
            y.hours(3);
            y.put(n);
            refusedFlag(y, 5, "on() of " + n.length + " bytes", y::on);
            due("undo()", y.undo(), true);
        }
        // Each byte is counted in the last one.
        for (int place = 0; place < 16; place++) {
            int[] other = bytes.clone();
            other[place] ^= 1;
            Counted y = with(ONE + "likes 5;");
            y.hours(3);
            y.put(other);
            refusedFlag(y, 5, "on() with byte " + place + " wrong", y::on);
        }
        good();
    }

    @Says(promise = 31, value = "(DAY 999, HOUR 23, fees 9999,")
    static void onTimes() {
        good(0, 3, 1, 231);
        bad(0, 3, 1, 232);
        bad(0, 4, 1, 0);
        bad(0, 255, 1, 255);
        good(0, 2, 1, 255);
        good(0, 0, 1, 0);
        good(2, 23);
        bad(2, 24);
        bad(2, 255);
        good(2, 0);
        good(3, 39, 4, 15);
        bad(3, 39, 4, 16);
        bad(3, 40, 4, 0);
        bad(3, 255, 4, 255);
        good(3, 38, 4, 255);
        good(3, 0, 4, 0);
    }

    @Says(promise = 31, value = "tastes and the like 9,")
    static void onTastes() {
        for (int place : new int[] {5, 6, 7, 10, 11, 12, 15, 16, 17}) {
            good(place, 9);
            good(place, 0);
            bad(place, 10);
            bad(place, 255);
        }
    }

    @Says(promise = 31, value = "SAW 99 at most, on this DAY no more than in all;")
    static void onSaw() {
        good(13, 99);
        good(13, 99, 14, 99);
        bad(13, 100);
        bad(13, 100, 14, 100);
        bad(13, 255);
        good(13, 20, 14, 20);
        bad(13, 20, 14, 21);
        good(13, 0, 14, 0);
        bad(13, 0, 14, 1);
        good(18, 99, 19, 99);
        bad(18, 100);
        good(18, 4, 19, 4);
        bad(18, 4, 19, 5);
        bad(18, 4, 19, 255);
    }

    @Says(promise = 31, value = "BEASTS that there are).")
    static void onBeasts() {
        good(8, 0);
        good(8, 1);
        good(8, 2);
        bad(8, 3);
        bad(8, 255);
        good(9, 0);
        good(9, 1);
        good(9, 2);
        good(9, 3);
        bad(9, 4);
        bad(9, 5);
        bad(9, 128);
        bad(9, 255);
        // All six.
        Counted x = with(beasts(6) + guests(1));
        due("on() with all six", x.become(8, 6, 9, 63), true);
        due("guest(0, 7)", x.guest(0, 7), 5);
        due("guest(0, 6)", x.guest(0, 6), 63);
        due("on() with a seventh", x.become(8, 7), false);
        due("on() with a seventh", x.become(9, 64), false);
        // None.
        Counted none = with(guests(1));
        due("on() without beasts", none.become(), true);
        due("on() kept by none", none.become(8, 1), false);
        due("on() sent back by none", none.become(9, 1), false);
    }

    @Says(promise = 32, value = "How many were refused: 0 feed(), end(); 1 zoo(); 2 hours(), chance(); 3 change(), train(), swap(); "
        + "4 undo(); 5 seed(), tell(), torn(), on().")
    static void status() {
        Counted x = new Counted();
        row("status() at first", w -> x.status(w), 0, 0, 0, 0, 0, 0);
        Runnable[] calls = {() -> x.end(1), () -> x.read("x"), () -> x.hours(0), () -> x.chance(0), () -> x.change(0, 1, 1, 1),
            () -> x.train(0, 1, 1, 1), () -> x.swap(0, 1), x::undo, () -> x.seed(-1), x::tell, x::torn, x::on};
        int[] kinds = {0, 1, 2, 2, 3, 3, 3, 4, 5, 5, 5, 5};
        int[] want = new int[6];
        for (int round = 0; round < 2; round++) {
            for (int i = 0; i < calls.length; i++) {
                calls[i].run();
                want[kinds[i]]++;
                row("status() behind call " + i, w -> x.status(w), want);
            }
        }
        for (int i = 0; i < 80; i++) {
            x.feed(0, 0, 0, 0, 0);
        }
        row("status() behind a full tape", w -> x.status(w), want);
        x.feed(0, 0, 0, 0, 0);
        want[0]++;
        row("status() behind feed", w -> x.status(w), want);
        // What is not refused counts nothing, a new zoo neither.
        x.end(0);
        x.read(ONE);
        x.hours(1);
        x.undo();
        x.become();
        row("status() behind what is not refused", w -> x.status(w), want);
    }

    @Says(promise = 32, value = "NONE for others.")
    static void statusNone() {
        Counted x = new Counted();
        x.end(1);
        for (int what : new int[] {-1, 6, 7, LEAST, GREATEST}) {
            due("status(" + what + ")", x.status(what), NONE);
        }
    }
}

/** Terms, I: the statements of a zoo, their names and numbers, and their faults. */
final class TextBounds extends Answers {
    static final String OWN = "beast wakes to at taste guest comes fears likes may ushers bores keeps fee rain suits saw hour "
        + "looks smell talk liking free if or and not all min max";

    private static final String PAIR = ONE + "beast b wakes 0 to 23 at 1;guest h 1 1 1 comes 0 to 23;";

    private TextBounds() {
    }

    // ---- statements

    @Says("A ZOO is a text: { STATEMENT ; } (80 at most)")
    static void eightyStatements() {
        whole("", 0);
        whole(" \n ", 0);
        whole("fee 1;", 1);
        whole("fee 1;".repeat(79), 79);
        whole("fee 1;".repeat(80), 80);
        whole("fee 1;".repeat(80) + " \n ", 80);
        faulty("fee 1;".repeat(81), 6, 480);
        faulty("fee 1", 1, 5);
        faulty("fee 1;;", 1, 6);
        faulty(";", 1, 0);
    }

    @Says("beast NAME wakes N to N at N (HOURS 0 .. 23, the second one no less")
    static void hoursOfABeast() {
        int[][] spans = {{0, 0}, {0, 23}, {23, 23}, {7, 7}, {7, 8}};
        for (int[] span : spans) {
            Counted x = with("beast b wakes " + span[0] + " to " + span[1] + " at 1;");
            due("beast(0, 0)", x.beast(0, 0), span[0]);
            due("beast(0, 1)", x.beast(0, 1), span[1]);
        }
        faulty("beast b wakes 24 to 24 at 1;", 4, 14);
        faulty("beast b wakes 9999 to 1 at 1;", 4, 14);
        faulty("beast b wakes 0 to 24 at 1;", 4, 19);
        faulty("beast b wakes 23 to 22 at 1;", 4, 20);
        faulty("beast b wakes 1 to 0 at 1;", 4, 19);
    }

    @Says("it is awake from the first to the second one;")
    static void awakeFromTo() {
        int[][] spans = {{0, 0}, {23, 23}, {2, 4}, {0, 23}};
        for (int[] span : spans) {
            // Who refuses is asked for in each hour.
            Counted x = with("beast b wakes " + span[0] + " to " + span[1] + " at 1;guest g 1 1 1 comes 0 to 23;fears g b;");
            for (int hour = 0; hour < 25; hour++) {
                boolean awake = hour % 24 >= span[0] && hour % 24 <= span[1];
                due("beast(0, 6) in hour " + hour, x.beast(0, 6), awake ? 1 : 0);
                due("asks(0, 0) in hour " + hour, x.asks(0, 0), awake ? 0 : NONE);
                due("hours(1) in hour " + hour, x.hours(1), awake ? 1 : 0);
            }
        }
    }

    @Says("0 .. 99, its PLACE;")
    static void place() {
        due("beast(0, 2)", with("beast b wakes 5 to 5 at 0;").beast(0, 2), 0);
        due("beast(0, 2)", with("beast b wakes 5 to 5 at 99;").beast(0, 2), 99);
        faulty("beast b wakes 5 to 5 at 100;", 4, 24);
    }

    @Says("6 BEASTS);")
    static void sixBeasts() {
        due("has(0)", with(beasts(1)).has(0), 1);
        due("has(0)", with(beasts(6)).has(0), 6);
        due("beast(5, 0)", with(beasts(6)).beast(5, 0), 0);
        faulty(beasts(7), 6, beasts(6).length());
    }

    @Says("taste NAME N N N (a BEAST, how it likes LOOKS, SMELL, TALK, 0 .. 9 each;")
    static void tasteBounds() {
        Counted x = with(PAIR + "taste a 0 9 0;taste b 9 0 9;");
        row("beast(0, 3 and on)", k -> x.beast(0, 3 + k), 0, 9, 0);
        row("beast(1, 3 and on)", k -> x.beast(1, 3 + k), 9, 0, 9);
        int n = PAIR.length();
        faulty(PAIR + "taste a 10 1 1;", 4, n + 8);
        faulty(PAIR + "taste a 1 10 1;", 4, n + 10);
        faulty(PAIR + "taste a 1 1 10;", 4, n + 12);
        faulty(PAIR + "taste g 1 1 1;", 3, n + 6);
        faulty(PAIR + "taste a 1 1;", 1, n + 11);
        faulty(PAIR + "taste a 1 1 1 1;", 1, n + 14);
    }

    @Says("the last one of a BEAST counts;")
    static void lastTaste() {
        Counted x = with(PAIR + "taste a 1 2 3;taste b 7 7 7;taste a 4 5 6;");
        row("beast(0, 3 and on)", k -> x.beast(0, 3 + k), 4, 5, 6);
        row("beast(1, 3 and on)", k -> x.beast(1, 3 + k), 7, 7, 7);
    }

    @Says("1 1 1 without);")
    static void noTaste() {
        Counted x = with(PAIR + "taste a 4 5 6;");
        row("beast(1, 3 and on)", k -> x.beast(1, 3 + k), 1, 1, 1);
        due("zoo()", x.read(PAIR), 4);
        row("beast(0, 3 and on) of the next zoo", k -> x.beast(0, 3 + k), 1, 1, 1);
    }

    @Says("guest NAME N N N comes N to N (LOOKS, SMELL, TALK, 0 .. 9 each;")
    static void traits() {
        Counted x = with("guest g 0 9 0 comes 0 to 1;guest h 9 0 9 comes 0 to 1;");
        row("guest(0)", k -> x.guest(0, k), 0, 9, 0);
        row("guest(1)", k -> x.guest(1, k), 9, 0, 9);
        faulty("guest g 10 1 1 comes 0 to 1;", 4, 8);
        faulty("guest g 1 10 1 comes 0 to 1;", 4, 10);
        faulty("guest g 1 1 10 comes 0 to 1;", 4, 12);
        faulty("guest g 1 1 comes 0 to 1;", 1, 12);
        faulty("guest g 1 1 1 1 comes 0 to 1;", 1, 14);
    }

    @Says("HOURS as above;")
    static void hoursOfAGuest() {
        int[][] spans = {{0, 0}, {0, 23}, {23, 23}, {2, 4}};
        for (int[] span : spans) {
            Counted x = with("guest g 1 1 1 comes " + span[0] + " to " + span[1] + ";");
            due("guest(0, 3)", x.guest(0, 3), span[0]);
            due("guest(0, 4)", x.guest(0, 4), span[1]);
            for (int hour = 0; hour < 25; hour++) {
                boolean there = hour % 24 >= span[0] && hour % 24 <= span[1];
                due("has(6) in hour " + hour, x.has(6), there ? 1 : 0);
                x.hours(1);
            }
        }
        faulty("guest g 1 1 1 comes 24 to 24;", 4, 20);
        faulty("guest g 1 1 1 comes 0 to 24;", 4, 25);
        faulty("guest g 1 1 1 comes 23 to 22;", 4, 26);
        faulty("guest g 1 1 1 comes 1 to 0;", 4, 25);
    }

    @Says("8 GUESTS);")
    static void eightGuests() {
        due("has(1)", with(guests(1)).has(1), 1);
        due("has(1)", with(guests(8)).has(1), 8);
        due("guest(7, 4)", with(guests(8)).guest(7, 4), 23);
        faulty(guests(9), 6, guests(8).length());
    }

    @Says("fears NAME NAME (a GUEST, a BEAST, not told already);")
    static void fears() {
        Counted x = with(PAIR + "fears g a;fears g b;fears h b;");
        due("guest(0, 5)", x.guest(0, 5), 3);
        due("guest(1, 5)", x.guest(1, 5), 2);
        int n = PAIR.length();
        faulty(PAIR + "fears g a;fears g a;", 3, n + 18);
        faulty(PAIR + "fears g a;fears h a;fears g b;fears g a;", 3, n + 38);
        faulty(PAIR + "fears a g;", 3, n + 6);
        faulty(PAIR + "fears g h;", 3, n + 8);
        // All that there can be.
        StringBuilder all = new StringBuilder(beasts(6) + guests(8));
        for (int i = 0; i < 48; i++) {
            all.append("fears g").append((char) ('a' + i / 6)).append(" b").append((char) ('a' + i % 6)).append(';');
        }
        whole(all.toString(), 62);
        due("guest(7, 5)", with(all.toString()).guest(7, 5), 63);
    }

    @Says("likes SUM, may TEST (one each);")
    static void oneLikesOneMay() {
        whole("likes 1;", 1);
        whole("may all;", 1);
        whole("may all;likes 1;", 2);
        whole("likes 1;may all;", 2);
        faulty("likes 1;likes 1;", 6, 8);
        faulty("may all;may all;", 6, 8);
        faulty("may all;likes 1;may all;", 6, 16);
    }

    // ---- what counts for the whole zoo

    @Says("ushers N (0 .. 6)")
    static void ushersBounds() {
        due("has(4)", with("ushers 0;").has(4), 0);
        due("has(4)", with("ushers 6;").has(4), 6);
        faulty("ushers 7;", 4, 7);
        // As many ask as there are ushers.
        due("hours(1)", with("ushers 6;" + beasts(6) + guests(8)).hours(1), 6);
        due("hours(1)", with("ushers 0;" + beasts(6) + guests(8)).hours(1), 0);
    }

    /** What becomes of the first asking, if the guest is liked so much behind it. */
    private static int becomes(String settings, int liked) {
        Counted x = with(ONE + "likes if(saw>0," + liked + ",9);" + settings);
        due("hours(1)", x.hours(1), 1);
        return x.kept(0, 4);
    }

    @Says("bores N (0 .. 99)")
    static void boresBounds() {
        due("bores 0, liked 0", becomes("bores 0;", 0), 1);
        due("bores 99, liked 99", becomes("bores 99;", 99), 1);
        due("bores 99, liked 98", becomes("bores 99;", 98), 2);
        faulty("bores 100;", 4, 6);
    }

    /** In which hour the guest is kept, who is seen in each one. */
    private static int keptIn(String settings) {
        Counted x = with(ONE + "likes 9;" + settings);
        for (int hour = 0; hour < 24; hour++) {
            if (x.has(7) == 1) {
                return hour;
            }
            x.hours(1);
        }
        return NONE;
    }

    @Says("keeps N (2 .. 9)")
    static void keepsBounds() {
        due("kept by keeps 2", keptIn("keeps 2;"), 2);
        due("kept by keeps 9", keptIn("keeps 9;"), 9);
        faulty("keeps 1;", 4, 6);
        faulty("keeps 0;", 4, 6);
        faulty("keeps 10;", 4, 6);
    }

    /** What three refusals cost. */
    private static int paid(String settings) {
        Counted x = with(ONE + "fears g a;" + settings);
        due("hours(3)", x.hours(3), 3);
        return x.has(5);
    }

    @Says("fee N (0 .. 99)")
    static void feeBounds() {
        due("paid by fee 0", paid("fee 0;"), 0);
        due("paid by fee 99", paid("fee 99;"), 297);
        faulty("fee 100;", 4, 4);
    }

    @Says("rain N (0 .. 100)")
    static void rainBounds() {
        due("chance(200)", with("rain 0;").chance(200), 0);
        due("chance(200)", with("rain 100;").chance(200), 200);
        faulty("rain 101;", 4, 5);
    }

    @Says("the last one of each counts")
    static void lastOfEach() {
        due("has(4)", with("ushers 5;ushers 0;ushers 2;").has(4), 2);
        due("bores 99, then 7", becomes("bores 99;bores 7;", 7), 1);
        due("bores 0, then 8", becomes("bores 0;bores 8;", 7), 2);
        due("keeps 2, then 5", keptIn("keeps 2;keeps 5;"), 5);
        due("fee 99, then 1", paid("fee 99;fee 1;"), 3);
        due("rain 0, then 100", with("rain 0;rain 100;").chance(9), 9);
        due("rain 100, then 0", with("rain 100;rain 0;").chance(9), 0);
    }

    @Says("(6, 1, 3, 5, 0 without)")
    static void without() {
        due("has(4)", with(ONE).has(4), 6);
        due("liked 0", becomes("", 0), 2);
        due("liked 1", becomes("", 1), 1);
        due("kept in hour", keptIn(""), 3);
        due("paid", paid(""), 15);
        due("chance(200)", with(ONE).chance(200), 0);
        due("has(4) ahead of any zoo", new Counted().has(4), 6);
        // Without, also behind zoos that told of each, and one that was refused.
        String all = ONE + "ushers 1;bores 9;keeps 9;fee 9;rain 100;likes 0;may not all;fears g a;taste a 9 9 9;";
        for (int whole = 0; whole <= 2; whole++) {
            Counted x = new Counted();
            for (int i = 0; i < whole; i++) {
                due("zoo()", x.read(all), 11);
            }
            due("zoo()", x.read(all + "x"), NONE);
            due("zoo()", x.read(ONE), 2);
            due("has(4)", x.has(4), 6);
            due("between(0, 0, 1)", x.between(0, 0, 1), 3);
            due("guest(0, 5)", x.guest(0, 5), 0);
            // Liked 1 then, and 1, and 0; so it is bored the third time.
            due("chance(4)", x.chance(4), 0);
            due("has(8)", x.has(8), 3);
            due("kept(1, 4)", x.kept(1, 4), 1);
            due("kept(2, 4)", x.kept(2, 4), 2);
            x.train(0, 9, 9, 9);
            x.hours(20);
            x.hours(3);
            due("kept(5, 4)", x.kept(5, 4), 3);
            due("zoo()", x.read(ONE + "fears g a;"), 3);
            x.hours(1);
            due("has(5)", x.has(5), 5);
        }
    }

    // ---- names, numbers, blanks

    @Says("NAMES: 1 to 6 letters,")
    static void lengthOfNames() {
        whole("beast a wakes 1 to 1 at 1;", 1);
        whole("beast abcdef wakes 1 to 1 at 1;", 1);
        whole("beast zzzzzz wakes 1 to 1 at 1;", 1);
        faulty("beast abcdefg wakes 1 to 1 at 1;", 1, 12);
        faulty("guest abcdefgh 1 1 1 comes 1 to 1;", 1, 12);
        faulty("beast  wakes 1 to 1 at 1;", 1, 7);
        faulty("beast ;", 1, 6);
        // Neither capitals nor what stands beside the letters.
        for (char c : new char[] {'A', 'Z', '`', '{', '@', '_', (char) 233}) {
            faulty("beast " + c + " wakes 1 to 1 at 1;", 1, 6);
            faulty("beast a" + c + " wakes 1 to 1 at 1;", 1, 7);
        }
    }

    @Says("unlike ones (of all sorts),")
    static void unlikeNames() {
        int n = ONE.length();
        faulty(ONE + "beast a wakes 1 to 1 at 1;", 2, n + 6);
        faulty(ONE + "beast g wakes 1 to 1 at 1;", 2, n + 6);
        faulty(ONE + "guest a 1 1 1 comes 1 to 1;", 2, n + 6);
        faulty(ONE + "guest g 1 1 1 comes 1 to 1;", 2, n + 6);
        whole(ONE + "beast aa wakes 1 to 1 at 1;guest ag 1 1 1 comes 1 to 1;beast aaaaaa wakes 1 to 1 at 1;", 5);
        // A name of the zoo ahead is no name here.
        Counted x = with(ONE);
        due("zoo() with the same names", x.read(ONE), 2);
    }

    @Says("told ahead of where they are asked.")
    static void toldAhead() {
        faulty("taste a 1 1 1;" + ONE, 3, 6);
        faulty("fears g a;" + ONE, 3, 6);
        faulty("guest g 1 1 1 comes 0 to 1;fears g a;beast a wakes 0 to 1 at 1;", 3, 35);
        whole("guest g 1 1 1 comes 0 to 1;beast a wakes 0 to 1 at 1;fears g a;taste a 1 1 1;", 4);
        // Names of the zoo ahead are not told in this one.
        Counted x = with(ONE);
        due("zoo()", x.read("taste a 1 1 1;"), NONE);
        due("fault(0)", x.fault(0), 3);
    }

    @Says("NUMBERS: 1 to 4 digits.")
    static void lengthOfNumbers() {
        whole("fee 0;", 1);
        whole("fee 9;fee 99;", 2);
        whole("fee 0000;fee 0099;", 2);
        whole("likes 9999;", 1);
        faulty("fee 00000;", 1, 8);
        faulty("likes 10000;", 1, 10);
        faulty("fee ;", 1, 4);
        due("has(4)", with("ushers 0005;").has(4), 5);
        faulty("ushers 0007;", 4, 7);
        // What stands beside the digits.
        faulty("fee /;", 1, 4);
        faulty("fee :;", 1, 4);
    }

    @Says("Blanks (10, 32) are where one likes")
    static void blanks() {
        String[] tokens = {"beast", "b", "wakes", "1", "to", "2", "at", "3", ";", "likes", "min", "(", "1", ",", "2", ")", "*", "3", ";",
            "may", "[", "not", "1", "<", "2", "or", "all", "]", ";"};
        for (String blank : new String[] {" ", "\n", "  ", "\n \n"}) {
            whole(blank + String.join(blank, tokens) + blank, 3);
        }
        // Where signs stand none is needed.
        whole("likes(1)+min(1,2);may[not(1)<2 or all];", 2);
        // Nothing else is blank.
        for (int c = 0; c < 256; c++) {
            if (c != 10 && c != 32) {
                faulty("fee 1;" + (char) c, 1, 6);
            }
        }
        for (int c : new int[] {0, 9, 11, 12, 13, 31, 33, 127, 160, 255}) {
            faulty("fee" + (char) c + "1;", 1, 3);
            faulty("fee 1" + (char) c + ";", 1, 5);
            faulty((char) c + "fee 1;", 1, 0);
        }
    }

    @Says("(words and numbers side by side need one).")
    static void sideBySide() {
        faulty("fee1;", 1, 3);
        faulty("beast b wakes1 to 2 at 3;", 1, 13);
        faulty("beast b wakes 1to 2 at 3;", 1, 15);
        faulty("beast b wakes 1 to2 at 3;", 1, 18);
        faulty("may not1=1;", 1, 7);
        faulty("may 1=1or all;", 1, 7);
        faulty("may 1=1 or2=2;", 1, 10);
        faulty("likes 1+saw2;", 1, 11);
        faulty(ONE + "taste a1 1 1;", 1, ONE.length() + 7);
        faulty("guest h1 1 1 comes 1 to 1;", 1, 7);
        faulty("guest h 1 1 1comes 1 to 1;", 1, 13);
        // Side by side two words are one, and so are two numbers.
        faulty("beastb wakes 1 to 2 at 3;", 1, 0);
        faulty(ONE + "taste a 11 1;", 4, ONE.length() + 8);
        // Signs need none.
        whole("likes(1);may[1=1];", 2);
    }

    @Says("OWN WORDS, which no NAME is: beast, wakes, to, at, taste, guest, comes, fears, likes, may, ushers, bores, keeps, fee, rain, "
        + "suits, saw, hour, looks, smell, talk, liking, free, if, or, and, not, all, min, max.")
    static void ownWords() {
        String own = " " + OWN + " ";
        for (String word : OWN.split(" ")) {
            faulty("beast " + word + " wakes 1 to 1 at 1;", 1, 6);
            faulty("guest " + word + " 1 1 1 comes 1 to 1;", 1, 6);
            // With a letter less or more it is a name.
            for (String near : new String[] {word.substring(1), word.substring(0, word.length() - 1), word + "s", "x" + word}) {
                if (near.length() <= 6 && !own.contains(" " + near + " ")) {
                    whole("beast " + near + " wakes 1 to 1 at 1;taste " + near + " 1 1 1;", 2);
                }
            }
        }
    }

    // ---- faults

    @Says("FAULTS, the first along the text")
    static void firstFault() {
        faulty("fee 100;x", 4, 4);
        faulty("fee 1 x;fee 100;", 1, 6);
        faulty(ONE + "taste x 10 1 1;", 3, ONE.length() + 6);
        faulty(ONE + "taste a 10 x;", 4, ONE.length() + 8);
        faulty(ONE + "beast a wakes 24;", 2, ONE.length() + 6);
        faulty("beast b wakes 24 to 24 at 100;", 4, 14);
        faulty("likes ((((((((1+;", 5, 13);
        faulty("likes (1+;((((((((((", 1, 9);
        faulty("likes 1;likes 1+;", 6, 8);
        faulty("likes 1+;likes 1;", 1, 8);
        faulty("fee 100 abcdefg;", 4, 4);
        faulty("abcdefg 100;", 1, 6);
        // The latest text's fault, not the one ahead.
        Counted x = new Counted();
        due("zoo()", x.read("fee 100;"), NONE);
        due("zoo()", x.read("x"), NONE);
        due("fault(0)", x.fault(0), 1);
        due("fault(1)", x.fault(1), 0);
    }

    @Says("1 the first byte with which no ZOO goes on (words and numbers whole, at their first byte;")
    static void noZooGoesOn() {
        faulty("x", 1, 0);
        faulty("wakes 1;", 1, 0);
        faulty("7;", 1, 0);
        faulty("fex 1;", 1, 0);
        faulty("Fee 1;", 1, 0);
        faulty("fee;", 1, 3);
        faulty("fee x;", 1, 4);
        faulty("fee -1;", 1, 4);
        faulty("fee 1 2;", 1, 6);
        faulty("fee 1 fee;", 1, 6);
        faulty("beast 77", 1, 6);
        faulty("beast b waken 1", 1, 8);
        faulty("beast b wakes x", 1, 14);
        faulty("beast b wakes 1 at", 1, 16);
        faulty("beast b wakes 1 to at", 1, 19);
        faulty("beast b wakes 1 to 2 to", 1, 21);
        faulty("beast b wakes 1 to 2 at at", 1, 24);
        faulty("beast b wakes 1 to 2 at 3 4", 1, 26);
        faulty("guest g 1 1 comes", 1, 12);
        faulty("guest g 1 1 1 wakes", 1, 14);
        faulty("guest g 1 1 1 comes 1 at", 1, 22);
        faulty("likes ;", 1, 6);
        faulty("likes 1+;", 1, 8);
        faulty("likes 1 22;", 1, 8);
        faulty("likes 1);", 1, 7);
        faulty("likes (1;", 1, 8);
        faulty("likes 1<2;", 1, 7);
        faulty("likes name;", 1, 6);
        faulty("may 1;", 1, 5);
        faulty("may 1=2=3;", 1, 7);
        faulty("may (1=2);", 1, 6);
        faulty("may [1=2;", 1, 8);
        faulty("may all all;", 1, 8);
    }

    /** Each beginning of a statement that is not all of it, with and without blanks behind. */
    private static void cutShort(String ahead, String... tokens) {
        String text = ahead;
        for (String token : tokens) {
            text += token;
            faulty(text, 1, text.length());
            faulty(text + " \n ", 1, text.length() + 3);
            text += " ";
        }
        whole(text + ";", (int) ahead.chars().filter(c -> c == ';').count() + 1);
    }

    @Says("at the text's length, if it ends too soon;")
    static void endsTooSoon() {
        cutShort("", "beast", "b", "wakes", "1", "to", "2", "at", "3");
        cutShort("", "guest", "g", "1", "2", "3", "comes", "1", "to", "2");
        cutShort(ONE, "taste", "a", "1", "2", "3");
        cutShort(ONE, "fears", "g", "a");
        for (String word : new String[] {"ushers", "bores", "keeps", "fee", "rain"}) {
            cutShort("", word, "2");
        }
        cutShort("", "likes", "min", "(", "1", ",", "saw", ")", "%", "if", "(", "all", ",", "1", ",", "(", "2", "-", "1", ")", ")");
        cutShort("", "may", "not", "[", "1", "<", "2", "or", "all", "and", "max", "(", "1", ",", "2", ")", "=", "free", "]");
        // A tape that is full.
        faulty("likes 1" + "+1".repeat(796) + "+", 1, 1600);
    }

    @Says("a 7th letter, a 5th digit at itself, whatever may stand there;")
    static void tooLong() {
        faulty("abcdefg", 1, 6);
        faulty("fee 1;abcdefgh", 1, 12);
        faulty("ushersx 1;", 1, 6);
        faulty("beast abcdefg", 1, 12);
        faulty("beast b wakesxy", 1, 14);
        faulty("beast b abcdefg", 1, 14);
        faulty("fee abcdefg", 1, 10);
        faulty("fee 1 abcdefg", 1, 12);
        faulty(ONE + "taste abcdefg", 1, ONE.length() + 12);
        faulty(ONE + "fears g abcdefg", 1, ONE.length() + 14);
        faulty("likes abcdefg", 1, 12);
        faulty("likes 1 abcdefg", 1, 14);
        faulty("may 1=1 abcdefg", 1, 14);
        faulty("12345", 1, 4);
        faulty("fee 12345;", 1, 8);
        faulty("fee 1 00000;", 1, 10);
        faulty("fee fee12345;", 1, 4);
        faulty("beast 12345", 1, 10);
        faulty("beast b 12345", 1, 12);
        faulty("taste 12345", 1, 10);
        faulty("likes 12345;", 1, 10);
        faulty("likes 1+12345;", 1, 12);
        faulty("likes (1 12345);", 1, 13);
        faulty("may 1=12345;", 1, 10);
        faulty("may 12345;", 1, 8);
        faulty("likes 1;12345", 1, 12);
    }

    @Says("an OWN WORD where a NAME must be);")
    static void ownWordForAName() {
        int n = ONE.length();
        for (String word : OWN.split(" ")) {
            faulty("beast  " + word, 1, 7);
            faulty("taste " + word, 1, 6);
            faulty(ONE + "fears " + word, 1, n + 6);
            faulty(ONE + "fears g  " + word, 1, n + 9);
        }
    }

    @Says("2 a NAME to be given that is there already, at its first byte;")
    static void nameGiven() {
        String two = "beast lion wakes 0 to 23 at 1;guest ann 1 1 1 comes 0 to 23;";
        int n = two.length();
        faulty(two + "beast lion", 2, n + 6);
        faulty(two + " beast \n lion ;", 2, n + 9);
        faulty(two + "beast ann", 2, n + 6);
        faulty(two + "guest ann 77", 2, n + 6);
        faulty(two + "guest  lion", 2, n + 7);
        // The last of all that there can be.
        String most = beasts(5) + guests(8);
        faulty(most + "beast gh", 2, most.length() + 6);
        faulty(most + "beast be wakes", 2, most.length() + 6);
    }

    @Says("3 a NAME that is none of what is asked (a fear told already: the BEAST), at its first byte;")
    static void nameUnknown() {
        String two = "beast lion wakes 0 to 23 at 1;guest ann 1 1 1 comes 0 to 23;";
        int n = two.length();
        faulty("taste lion 1 1 1;", 3, 6);
        faulty(two + "taste lio 1 1 1;", 3, n + 6);
        faulty(two + "taste lions", 3, n + 6);
        faulty(two + "taste  ann", 3, n + 7);
        faulty(two + "fears lion lion;", 3, n + 6);
        faulty(two + "fears an", 3, n + 6);
        faulty(two + "fears ann ann;", 3, n + 10);
        faulty(two + "fears ann lionn", 3, n + 10);
        faulty(two + "fears ann lion;fears ann  lion;", 3, n + 26);
    }

    @Says("4 a NUMBER that can't be, at its first byte;")
    static void numberWrong() {
        faulty("beast b wakes  24", 4, 15);
        faulty("beast b wakes 5 to 4", 4, 19);
        faulty("beast b wakes 5 to 24", 4, 19);
        faulty("beast b wakes 5 to 5 at  100", 4, 25);
        faulty("guest g 10", 4, 8);
        faulty("guest g 9 10", 4, 10);
        faulty("guest g 9 9 10", 4, 12);
        faulty("guest g 9 9 9 comes 24", 4, 20);
        faulty("guest g 9 9 9 comes 2 to 1", 4, 25);
        faulty("guest g 9 9 9 comes 2 to 9999", 4, 25);
        faulty(ONE + "taste a 10", 4, ONE.length() + 8);
        faulty(ONE + "taste a 1 10", 4, ONE.length() + 10);
        faulty(ONE + "taste a 1 1 10", 4, ONE.length() + 12);
        faulty("ushers 7", 4, 7);
        faulty("bores 100", 4, 6);
        faulty("keeps 1", 4, 6);
        faulty("keeps 10", 4, 6);
        faulty("fee 100", 4, 4);
        faulty("rain 101", 4, 5);
        // In a SUM each number can be.
        whole("likes 9999;may 0=0000;", 2);
    }

    @Says("5 the 8th ( [ not that is open at once (not until its FACT ends), at it;")
    static void eightOpen() {
        whole("likes (((((((1)))))));", 1);
        faulty("likes ((((((((1))))))));", 5, 13);
        whole("likes min(((((((1)))))),1);", 1);
        faulty("likes (((((((min(1,2))))))));", 5, 16);
        faulty("likes (((((((max(1,2))))))));", 5, 16);
        faulty("likes (((((((if(all,1,2))))))));", 5, 15);
        whole("may [[[[[[[all]]]]]]];", 1);
        faulty("may [[[[[[[[all]]]]]]]];", 5, 11);
        whole("may not not not not not not not all;", 1);
        faulty("may not not not not not not not not all;", 5, 32);
        // All three together.
        whole("may [not [((((1))))=1]];", 1);
        faulty("may [not [(((((1)))))=1]];", 5, 14);
        faulty("may [not [((((if(1=1,1,1)))))=1]];", 5, 16);
        faulty("may [not [(((1)))=1 and not not not not not all]];", 5, 40);
        // What is closed is open no more.
        whole("likes (((((((1)))))))+(((((((1)))))))*(((((((1)))))));", 1);
        whole("may [[[[[[[all]]]]]]] and [[[[[[[all]]]]]]] or [[[[[[[all]]]]]]];", 1);
        whole("likes if([[[[[[all]]]]]],((((((1)))))),max(((((1)))),((((1)))))-((((1)))));", 1);
        // A not is open until its fact ends, and no longer.
        whole("may not ((((((1))))))=1;", 1);
        faulty("may not (((((((1)))))))=1;", 5, 14);
        faulty("may not 1=(((((((1)))))));", 5, 16);
        whole("may not 1=1 and (((((((1)))))))=1;", 1);
        whole("may not 1=1 or [[[[[[[all]]]]]]];", 1);
        whole("may not not not all and not not not not not not not all;", 1);
        // Each text anew.
        whole("may [[[[[[[all]]]]]]];likes (((((((1)))))));", 2);
        Counted x = new Counted();
        due("zoo()", x.read("may not [(((((;"), NONE);
        due("zoo() behind what stayed open", x.read("may [[[[[[[all]]]]]]];"), 1);
        due("zoo()", x.read("likes min(((((;"), NONE);
        due("zoo() behind what stayed open", x.read("likes (((((((1)))))));"), 1);
    }

    @Says("6 one too many of a kind of STATEMENT (a second likes, may, too),")
    static void oneTooMany() {
        faulty(beasts(6) + "  beast", 6, beasts(6).length() + 2);
        faulty(beasts(6) + guests(8) + "beast x", 6, beasts(6).length() + guests(8).length());
        faulty(guests(8) + "\nguest 7", 6, guests(8).length() + 1);
        faulty("likes 1;fee 1; likes", 6, 15);
        faulty("may all;likes 1;  may", 6, 18);
        // As many as one likes of the others.
        whole(ONE + "taste a 1 1 1;".repeat(70), 72);
        whole("ushers 1;bores 1;keeps 2;fee 1;rain 1;".repeat(16), 80);
    }

    @Says("or the 81st STATEMENT (whatever it is), at its first byte.")
    static void eightyFirst() {
        String eighty = ONE + "fee 1;".repeat(78);
        int n = eighty.length();
        whole(eighty, 80);
        faulty(eighty + "fee 1;", 6, n);
        faulty(eighty + " \n fee 1;", 6, n + 3);
        faulty(eighty + "fee 100;", 6, n);
        faulty(eighty + "beast a wakes 24;", 6, n);
        faulty(eighty + "guest a;", 6, n);
        faulty(eighty + "taste x;", 6, n);
        faulty(eighty + "fears x;", 6, n);
        faulty(eighty + "likes ((((((((", 6, n);
        faulty(eighty + "may", 6, n);
        faulty(eighty + "rain", 6, n);
        faulty("likes 1;may all;" + "fee 1;".repeat(78) + "likes 1;", 6, 484);
    }
}

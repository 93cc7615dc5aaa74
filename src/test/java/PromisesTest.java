import java.util.Arrays;

/**
 * Each promise of the document by hand: ordinary inputs, the edges that it names, wrong inputs.
 * The answers that are due were worked out from the document's words, not from the program.
 */
public final class PromisesTest extends Answers {
    private static final String PAIR = "beast lion wakes 0 to 5 at 10;beast seal wakes 2 to 23 at 4;taste lion 3 0 1;"
        + "guest ann 5 2 1 comes 0 to 8;guest bob 1 9 4 comes 0 to 3;guest cy 8 0 0 comes 1 to 23;fears bob lion;";

    public static void main(String[] args) {
        newObject();
        feed();
        end();
        zoo();
        faultsOfGrammar();
        faultsOfNames();
        faultsOfNumbers();
        faultsOfDepthAndCount();
        faultOfLatest();
        has();
        letter();
        beast();
        guest();
        between();
        sums();
        tests();
        asks();
        askingRules();
        alone();
        bring();
        dress();
        tell();
        tastes();
        send();
        round();
        walk();
        torn();
        hours();
        chance();
        change();
        train();
        swap();
        undo();
        seed();
        kept();
        image();
        octet();
        on();
        status();
        finish("all promises hold");
    }

    private static void newObject() {
        about = "promise 1";
        Counted x = new Counted();
        int[] first = {0, 0, 0, 0, 6, 0, 0, 0, 0, 0, 1, 0};
        for (int w = 0; w < first.length; w++) {
            due("has(" + w + ")", x.has(w), first[w]);
        }
        due("NONE", BeastsChoose.NONE, NONE);
        due("beast(0, 0)", x.beast(0, 0), NONE);
        due("guest(0, 0)", x.guest(0, 0), NONE);
        due("alone(0)", x.alone(0), NONE);
        due("kept(0, 0)", x.kept(0, 0), NONE);
        due("tastes(0)", x.tastes(0), 1000);
        due("bring(NONE)", x.bring(NONE), 0);
        due("walk(0, 6)", x.walk(0, 6), 0);
        due("walk(1, 1)", x.walk(1, 1), NONE);
    }

    private static void feed() {
        about = "promise 2";
        Counted x = new Counted();
        for (int i = 1; i <= 80; i++) {
            due("feed " + i, x.feed(0x20202020, 0x20202020, 0x20202020, 0x20202020, 0x20202020), 20 * i);
        }
        due("feed beyond 1600", x.feed(0, 0, 0, 0, 0), NONE);
        due("status(0)", x.status(0), 1);
        due("end(1581)", x.end(1581), true);
        due("feed beyond 1600 by one", x.feed(0, 0, 0, 0, 0), NONE);
        due("end(1580)", x.end(1580), true);
        due("feed up to 1600", x.feed(0, 0, 0, 0, 0), 1600);
        due("status(0)", x.status(0), 2);
        // "fee 7;" and "rain 9;" in four bytes a number, the highest first, bytes above 127 too.
        x = new Counted();
        x.feed(0x66656520, 0x373b7261, 0x696e2039, 0x3b202020, 0xff202020);
        x.end(17);
        due("zoo()", x.zoo(), NONE);
        due("fault(1)", x.fault(1), 16);
        x.feed(0x66656520, 0x373b7261, 0x696e2039, 0x3b202020, 0xff202020);
        x.end(16);
        due("zoo()", x.zoo(), 2);
    }

    private static void end() {
        about = "promise 3";
        Counted x = new Counted();
        due("end(0)", x.end(0), true);
        due("end(1)", x.end(1), false);
        due("end(-1)", x.end(-1), false);
        due("end(least)", x.end(Integer.MIN_VALUE), false);
        due("status(0)", x.status(0), 3);
        x.feed(0, 0, 0, 0, 0);
        due("end(21)", x.end(21), false);
        due("end(20)", x.end(20), true);
        due("end(3)", x.end(3), true);
        due("end(4)", x.end(4), false);
        due("feed", x.feed(0, 0, 0, 0, 0), 23);
    }

    private static void zoo() {
        about = "promise 4";
        Counted x = new Counted();
        due("zoo() of nothing", x.zoo(), 0);
        due("zoo() of blanks", x.read(" \n \n"), 0);
        due("zoo()", x.read(PAIR), 7);
        due("feed behind zoo()", x.feed(0, 0, 0, 0, 0), 20);
        due("end", x.end(0), true);
        x.seed(77);
        x.hours(30);
        x.change(0, 1, 1, 1);
        x.train(0, 1, 1, 1);
        x.put(0, 1);
        due("tell()", x.tell(), 1);
        due("zoo() with a fault", x.read("fee 1;fee"), NONE);
        due("feed behind a fault", x.feed(0, 0, 0, 0, 0), 20);
        due("end", x.end(0), true);
        due("status(1)", x.status(1), 1);
        int[] stays = {2, 3, 1, 6, 6};
        for (int w = 0; w < stays.length; w++) {
            due("has(" + w + ") behind a fault", x.has(w), stays[w]);
        }
        due("has(9) behind a fault", x.has(9), 3);
        due("has(11) behind a fault", x.has(11), 1);
        due("guest(0, 0) behind a fault", x.guest(0, 0), 1);
        due("zoo() again", x.read(PAIR), 7);
        int[] anew = {2, 3, 0, 0, 6, 0, 2, 0, 0, 0, 77, 0};
        for (int w = 0; w < anew.length; w++) {
            due("has(" + w + ") anew", x.has(w), anew[w]);
        }
        due("guest(0, 0) anew", x.guest(0, 0), 5);
        due("beast(0, 3) anew", x.beast(0, 3), 3);
        due("between(1, 2, 2) anew", x.between(1, 2, 2), 0);
        due("undo() anew", x.undo(), false);
        // What the last one told is gone in another zoo.
        x.read("ushers 2;rain 100;likes 7;may 1=2;" + ONE);
        due("asks by may", x.asks(0, 0), NONE);
        x.read(ONE);
        due("has(4) without", x.has(4), 6);
        due("likes without", x.between(0, 0, 1), 3);
        due("asks without", x.asks(0, 0), 0);
        due("chance without rain", x.chance(5), 0);
        // The last one of each counts; a guest's fear is not another guest's of the same number.
        x.read("ushers 1;ushers 4;" + ONE + "taste a 1 2 3;taste a 4 5 6;fears g a;");
        due("has(4)", x.has(4), 4);
        due("beast(0, 4)", x.beast(0, 4), 5);
        due("guest(0, 5)", x.guest(0, 5), 1);
        x.read(ONE);
        due("guest(0, 5)", x.guest(0, 5), 0);
        due("beast(0, 4)", x.beast(0, 4), 1);
        // Blanks where one likes, none where signs are.
        whole("\n beast\nlion  wakes\n0 to 5 at 10 ; likes min ( 1 , 2 ) * ( suits )\n;may not[1=1]and all;fee 0007;", 4);
        whole("likes 9999;may 1<2 and 1>2 or [all or not not all] and if(all,1,2)=max(1,2)%3;", 2);
    }

    private static void faultsOfGrammar() {
        about = "promise 5";
        faulty("x", 1, 0);
        faulty("wakes 1;", 1, 0);
        faulty(";", 1, 0);
        faulty("fee 1;;", 1, 6);
        faulty("fee 1", 1, 5);
        faulty("fee 1  ", 1, 7);
        faulty("  fee", 1, 5);
        faulty("fee;", 1, 3);
        faulty("fee x;", 1, 4);
        faulty("fee -1;", 1, 4);
        faulty("Fee 1;", 1, 0);
        faulty("fee\t1;", 1, 3);
        faulty("fee1;", 1, 3);
        faulty("beast b wakes 1to 2", 1, 15);
        faulty("beast b wakes 1 to2", 1, 18);
        faulty("fee 12345;", 1, 8);
        faulty("fee fee12345;", 1, 4);
        faulty("123456;", 1, 4);
        faulty("abcdefg;", 1, 6);
        faulty("ushersx 1;", 1, 6);
        faulty("beast 12345", 1, 10);
        faulty("beast abcdefg wakes", 1, 12);
        faulty("beast to wakes 1", 1, 6);
        faulty("beast max wakes 1", 1, 6);
        faulty("beast 7", 1, 6);
        faulty("beast", 1, 5);
        faulty("beast b comes", 1, 8);
        faulty("beast b wakes 1 at", 1, 16);
        faulty("beast b wakes 1 to 2 to", 1, 21);
        faulty("beast b wakes 1 to 2 at 3 4", 1, 26);
        faulty("guest g 1 1 comes", 1, 12);
        faulty("guest g 1 1 1 wakes", 1, 14);
        faulty("taste all", 1, 6);
        faulty("fears 1", 1, 6);
        faulty(ONE + "fears g to", 1, ONE.length() + 8);
        faulty("likes ;", 1, 6);
        faulty("likes 1+;", 1, 8);
        faulty("likes +1;", 1, 6);
        faulty("likes -1;", 1, 6);
        faulty("likes 1 1;", 1, 8);
        faulty("likes 1<2;", 1, 7);
        faulty("likes fears;", 1, 6);
        faulty("likes if(free=1,1,2);", 1, 9);
        faulty("likes (1;", 1, 8);
        faulty("likes 1);", 1, 7);
        faulty("likes min 1;", 1, 10);
        faulty("likes min(1);", 1, 11);
        faulty("likes max(1,2,3);", 1, 13);
        faulty("likes if(1,2,3);", 1, 10);
        faulty("likes if(all,2);", 1, 14);
        faulty("likes [1];", 1, 6);
        faulty("likes name;", 1, 6);
        faulty("may 1;", 1, 5);
        faulty("may 1=2=3;", 1, 7);
        faulty("may (1=2);", 1, 6);
        faulty("may [1=2;", 1, 8);
        faulty("may not;", 1, 7);
        faulty("may all all;", 1, 8);
        faulty("may all and;", 1, 11);
        faulty("may all=1;", 1, 7);
        faulty("may 1 and 2;", 1, 6);
        faulty("may suits >", 1, 11);
        faulty("fee 1;" + (char) 233, 1, 6);
        // A full tape: tokens of one byte each, and the longest sum.
        faulty(";".repeat(1600), 1, 0);
        faulty(" ".repeat(1599) + "x", 1, 1599);
        whole(" ".repeat(1600), 0);
        String longest = "likes 1" + "+1".repeat(796);
        whole(longest + ";", 1);
        faulty(longest + "+", 1, 1600);
        faulty(longest + " ", 1, 1600);
        Counted x = with(ONE + "may " + "not 1=2 and ".repeat(100) + "1=1;likes " + "1+".repeat(140) + "1;");
        due("between(0, 0, 1) by 141 ones", x.between(0, 0, 1), 141);
        due("asks(0, 0) by 101 facts", x.asks(0, 0), 0);
        // In likes no word of may, behind a may neither.
        faulty("may free=1;likes free;", 1, 17);
    }

    private static void faultsOfNames() {
        faulty(ONE + "beast a", 2, ONE.length() + 6);
        faulty(ONE + "beast g", 2, ONE.length() + 6);
        faulty(ONE + "guest a 77", 2, ONE.length() + 6);
        faulty(ONE + "guest  g", 2, ONE.length() + 7);
        whole(ONE + "guest aa 1 1 1 comes 1 to 1;", 3);
        faulty("taste b 1 1 1;beast b wakes 1 to 1 at 1;", 3, 6);
        faulty(ONE + "taste g", 3, ONE.length() + 6);
        faulty(ONE + "fears a a", 3, ONE.length() + 6);
        faulty(ONE + "fears g g", 3, ONE.length() + 8);
        faulty(ONE + "fears x", 3, ONE.length() + 6);
        faulty(ONE + "fears g a;fears g a;", 3, ONE.length() + 18);
    }

    private static void faultsOfNumbers() {
        faulty("beast b wakes 24", 4, 14);
        faulty("beast b wakes 5 to 4", 4, 19);
        faulty("beast b wakes 5 to 24", 4, 19);
        faulty("beast b wakes 5 to 5 at 100", 4, 24);
        whole("beast b wakes 23 to 23 at 99;", 1);
        whole("beast b wakes 0 to 0 at 0;", 1);
        faulty("guest g 10", 4, 8);
        faulty("guest g 9 10", 4, 10);
        faulty("guest g 9 9 10", 4, 12);
        faulty("guest g 9 9 9 comes 24", 4, 20);
        faulty("guest g 9 9 9 comes 2 to 1", 4, 25);
        whole("guest g 9 0 9 comes 1 to 1;", 1);
        faulty(ONE + "taste a 1 1 10", 4, ONE.length() + 12);
        faulty("ushers 7", 4, 7);
        whole("ushers 6;ushers 0;", 2);
        faulty("bores 100", 4, 6);
        whole("bores 99;bores 0;", 2);
        faulty("keeps 1", 4, 6);
        faulty("keeps 10", 4, 6);
        whole("keeps 2;keeps 9;", 2);
        faulty("fee 100", 4, 4);
        whole("fee 99;fee 0;", 2);
        faulty("rain 101", 4, 5);
        whole("rain 100;rain 0;", 2);
    }

    private static void faultsOfDepthAndCount() {
        whole("likes (((((((1)))))));", 1);
        faulty("likes ((((((((1", 5, 13);
        faulty("likes (((((((min(1", 5, 16);
        faulty("likes (((((((max 1", 1, 17);
        faulty("likes if(if(if(if(if(if(if(if(", 5, 29);
        whole("may not not not not not not not all;", 1);
        faulty("may not not not not not not not not all;", 5, 32);
        whole("may [[[[[[[all]]]]]]];", 1);
        faulty("may [[[[[[[[", 5, 11);
        faulty("may [(1)=1 and not [(((((1", 5, 24);
        whole("may [(1)=1 and not [((((1))))=1] and not not not not not not all];", 1);
        faulty("may [[[[[[[all]]]]]]] and ((((((((", 5, 33);
        StringBuilder beasts = new StringBuilder();
        StringBuilder guests = new StringBuilder();
        for (int i = 0; i < 8; i++) {
            beasts.append("beast b").append((char) ('a' + i)).append(" wakes 0 to 1 at 1;");
            guests.append("guest g").append((char) ('a' + i)).append(" 1 1 1 comes 0 to 1;");
        }
        int beastLine = beasts.length() / 8;
        whole(beasts.substring(0, 6 * beastLine) + guests, 14);
        faulty(beasts.toString(), 6, 6 * beastLine);
        faulty(guests + " guest", 6, guests.length() + 1);
        faulty("likes 1;fee 1;likes", 6, 14);
        faulty("may all;likes 1;  may", 6, 18);
        String eighty = "fee 1;".repeat(80);
        whole(eighty, 80);
        whole(eighty + " \n", 80);
        faulty(eighty + " fee 1;", 6, 481);
        faulty(eighty + "taste x", 6, 480);
        // What was open at a fault is not open in the next text.
        Counted x = new Counted();
        due("zoo()", x.read("likes ((((((( ;"), NONE);
        due("zoo() behind it", x.read("likes (((((((1)))))));may [[[[[[[all]]]]]]];"), 2);
        due("zoo()", x.read("may not not not not ;"), NONE);
        due("zoo() behind it", x.read("may [[[[[[[all]]]]]]];likes (((((((1)))))));"), 2);
        faulty("may 1=((((((((1", 5, 13);
        faulty("may 1=2 or 1=((((((((1", 5, 20);
        faulty("may 1=2 and 1=((((((((1", 5, 21);
        faulty("likes 1+((((((((1", 5, 15);
        faulty("likes 1*((((((((1", 5, 15);
        // The deepest that can stand, with all that can wait at each depth.
        String deep = "1";
        for (int i = 0; i < 7; i++) {
            deep = "if(1=2 or 1=1 and 1<1+1*" + deep + ",1+1*2,3)";
        }
        whole("may 1=2 or 1=1 and 1<1+1*" + deep + ";likes " + deep + ";", 2);
        x = with(ONE + "may 1=2 or 1=1 and 1<1+1*" + deep + ";likes " + deep + ";");
        due("between(0, 0, 1) by the deepest", x.between(0, 0, 1), 3);
        due("asks(0, 0) by the deepest", x.asks(0, 0), 0);
        // The first along the text counts.
        faulty("fee 100;x", 4, 4);
        faulty("fee 1 x;fee 100", 1, 6);
    }

    private static void faultOfLatest() {
        Counted x = new Counted();
        due("fault(0) ahead of any", x.fault(0), 0);
        due("fault(1) ahead of any", x.fault(1), NONE);
        x.read("fee 100");
        due("fault(2)", x.fault(2), NONE);
        due("fault(-1)", x.fault(-1), NONE);
        due("fault(0)", x.fault(0), 4);
        x.read("fee 1;");
        due("fault(0) without", x.fault(0), 0);
        due("fault(1) without", x.fault(1), NONE);
    }

    private static void has() {
        about = "promise 6";
        Counted x = with(PAIR + "ushers 3;fee 7;keeps 2;");
        int[] first = {2, 3, 0, 0, 3, 0, 2, 0, 0, 0, 1, 0};
        for (int w = 0; w < first.length; w++) {
            due("has(" + w + ")", x.has(w), first[w]);
        }
        due("has(12)", x.has(12), NONE);
        due("has(-1)", x.has(-1), NONE);
        x.hours(1);
        due("has(6) in hour 1", x.has(6), 3);
        x.hours(25);
        due("has(2)", x.has(2), 1);
        due("has(3)", x.has(3), 2);
        x = with(ONE + "fears g a;fee 99;");
        x.hours(100);
        due("has(5)", x.has(5), 9900);
        x.hours(1);
        due("has(5) at most", x.has(5), 9999);
        x.hours(1);
        due("has(5) at most", x.has(5), 9999);
        x = with("beast a wakes 0 to 23 at 1;guest g 1 1 1 comes 0 to 23;keeps 2;likes 5;");
        x.hours(2);
        due("has(7)", x.has(7), 1);
        due("has(8)", x.has(8), 2);
        due("has(9)", x.has(9), 1);
        x.hours(200);
        due("has(8), two rows on each of nine days", x.has(8), 18);
        for (int i = 0; i < 5; i++) {
            x.hours(200);
        }
        due("has(8) at most", x.has(8), 60);
        for (int i = 0; i < 30; i++) {
            x.change(0, i % 2, 1, 1);
        }
        due("has(9) at most", x.has(9), 20);
    }

    private static void letter() {
        about = "promise 7";
        Counted x = with("beast az wakes 0 to 1 at 1;beast zyxwvu wakes 0 to 1 at 1;guest q 1 1 1 comes 1 to 1;");
        int[][] names = {{1, 26, 0, 0, 0, 0}, {26, 25, 24, 23, 22, 21}};
        for (int b = 0; b < 2; b++) {
            for (int k = 0; k < 6; k++) {
                due("letter(0, " + b + ", " + k + ")", x.letter(0, b, k), names[b][k]);
            }
        }
        due("letter(1, 0, 0)", x.letter(1, 0, 0), 17);
        due("letter(1, 0, 1)", x.letter(1, 0, 1), 0);
        due("letter(1, 0, 6)", x.letter(1, 0, 6), NONE);
        due("letter(1, 0, -1)", x.letter(1, 0, -1), NONE);
        due("letter(1, 1, 0)", x.letter(1, 1, 0), NONE);
        due("letter(0, 2, 0)", x.letter(0, 2, 0), NONE);
        due("letter(0, -1, 0)", x.letter(0, -1, 0), NONE);
        due("letter(2, 0, 0)", x.letter(2, 0, 0), NONE);
        due("letter(-1, 0, 0)", x.letter(-1, 0, 0), NONE);
    }

    private static void beast() {
        about = "promise 8";
        Counted x = with(PAIR);
        int[][] want = {{0, 5, 10, 3, 0, 1, 1, NONE}, {2, 23, 4, 1, 1, 1, 0, NONE}};
        for (int b = 0; b < 2; b++) {
            for (int w = 0; w < 8; w++) {
                due("beast(" + b + ", " + w + ")", x.beast(b, w), want[b][w]);
            }
        }
        due("beast(0, 8)", x.beast(0, 8), NONE);
        due("beast(0, -1)", x.beast(0, -1), NONE);
        due("beast(2, 0)", x.beast(2, 0), NONE);
        due("beast(-1, 0)", x.beast(-1, 0), NONE);
        x.hours(5);
        due("beast(0, 6) in its last hour", x.beast(0, 6), 1);
        x.hours(1);
        due("beast(0, 6) behind it", x.beast(0, 6), 0);
        due("beast(1, 6)", x.beast(1, 6), 1);
        // Two guests kept by one beast: the first one is told.
        x = with("beast a wakes 0 to 23 at 1;guest g 1 1 1 comes 3 to 23;guest h 1 1 1 comes 0 to 23;likes 5;keeps 2;");
        x.hours(2);
        due("beast(0, 7)", x.beast(0, 7), 1);
        x.hours(3);
        due("beast(0, 7)", x.beast(0, 7), 0);
        due("has(7)", x.has(7), 2);
    }

    private static void guest() {
        about = "promise 9";
        Counted x = with(PAIR);
        int[][] want = {{5, 2, 1, 0, 8, 0, 0, NONE}, {1, 9, 4, 0, 3, 1, 0, NONE}, {8, 0, 0, 1, 23, 0, 0, NONE}};
        for (int g = 0; g < 3; g++) {
            for (int w = 0; w < 8; w++) {
                due("guest(" + g + ", " + w + ")", x.guest(g, w), want[g][w]);
            }
        }
        due("guest(0, 8)", x.guest(0, 8), NONE);
        due("guest(0, -1)", x.guest(0, -1), NONE);
        due("guest(3, 0)", x.guest(3, 0), NONE);
        due("guest(-1, 0)", x.guest(-1, 0), NONE);
        x = with("beast z wakes 9 to 9 at 1;beast a wakes 0 to 23 at 1;guest g 1 1 1 comes 0 to 23;fears g z;bores 1;likes 1-saw;");
        x.hours(1);
        due("guest(0, 6)", x.guest(0, 6), 2);
        due("guest(0, 7)", x.guest(0, 7), NONE);
        x = with("beast z wakes 9 to 9 at 1;beast a wakes 0 to 23 at 1;guest g 1 1 1 comes 0 to 23;keeps 2;likes 1;");
        x.hours(2);
        due("guest(0, 7)", x.guest(0, 7), 1);
        x.hours(22);
        due("guest(0, 7) the next day", x.guest(0, 7), NONE);
    }

    private static void between() {
        about = "promise 10";
        Counted x = with("beast a wakes 0 to 23 at 1;taste a 5 1 3;guest g 7 3 2 comes 0 to 23;keeps 9;");
        due("between(0, 0, 0)", x.between(0, 0, 0), 44);
        due("between(0, 0, 1)", x.between(0, 0, 1), 44);
        x.hours(2);
        due("between(0, 0, 0)", x.between(0, 0, 0), 44);
        due("between(0, 0, 1) of 44 / 3", x.between(0, 0, 1), 14);
        due("between(0, 0, 2)", x.between(0, 0, 2), 2);
        due("between(0, 0, 3)", x.between(0, 0, 3), 2);
        x.hours(22);
        due("between(0, 0, 2) the next day", x.between(0, 0, 2), 9);
        due("between(0, 0, 3) the next day", x.between(0, 0, 3), 0);
        due("between(0, 0, 4)", x.between(0, 0, 4), NONE);
        due("between(0, 0, -1)", x.between(0, 0, -1), NONE);
        due("between(1, 0, 0)", x.between(1, 0, 0), NONE);
        due("between(0, 1, 0)", x.between(0, 1, 0), NONE);
        due("between(-1, 0, 0)", x.between(-1, 0, 0), NONE);
        due("between(0, -1, 0)", x.between(0, -1, 0), NONE);
        x = with("beast a wakes 0 to 23 at 1;guest g 9 9 9 comes 0 to 23;likes 500;keeps 9;");
        for (int i = 0; i < 2; i++) {
            x.hours(200);
        }
        due("between(0, 0, 2) at most", x.between(0, 0, 2), 99);
    }

    private static void sums() {
        likes("suits", 38);
        likes("looks*100+smell*10+talk", 732);
        likes("hour+saw+5", 5);
        likes("1000", 999);
        likes("3-5", 0);
        likes("10-3-2", 5);
        likes("2+3*4", 14);
        likes("(2+3)*4", 20);
        likes("100/7/2", 7);
        likes("100/(7/2)", 33);
        likes("7%4*2", 6);
        likes("20+(0-7)/2", 16);
        likes("20+7/(0-2)", 16);
        likes("20+(0-7)/(0-2)", 23);
        likes("20+(0-7)%2", 21);
        likes("20+7%(0-2)", 19);
        likes("20+(0-7)%(0-2)", 19);
        likes("7/0+5", 5);
        likes("7%0+5", 5);
        likes("9999*9999/9999", 100);
        likes("9999*9999-999*1001", 1);
        likes("(0-9999)*9999+1000*1000+1", 1);
        likes("999*1001+9-999*1001", 1);
        likes("(0-999*1001)-9+999*1001+5", 4);
        likes("min(3,5)*10+max(3,5)", 35);
        likes("min(0-1,1)+9", 8);
        likes("if(1<2,7,8)", 7);
        likes("if(2<2,7,8)", 8);
        likes("if(2>2,7,8)", 8);
        likes("if(3>2,7,8)", 7);
        likes("if(2=2,7,8)", 7);
        likes("if(2=3,7,8)", 8);
        likes("if(not all,7,if(all,9,8))", 9);
        likes("if(suits>37 and suits<39,1,0)", 1);
        // Saw and hour as they go.
        Counted x = with(ONE + "likes 100+saw*10+hour;keeps 9;bores 0;");
        x.hours(3);
        due("between(0, 0, 1)", x.between(0, 0, 1), 133);
    }

    private static void tests() {
        may("all", true);
        may("not all", false);
        may("not not all", true);
        may("1=1 or 1=1 and 1=2", true);
        may("[1=1 or 1=1] and 1=2", false);
        may("not 1=2 and 1=1", true);
        may("not [1=2 and 1=1]", true);
        may("not [1=2 or 1=1]", false);
        may("1=2 or 1=2 or 1=1", true);
        may("all and all and 1=2", false);
        may("liking=38", true);
        may("liking>38", false);
        may("fears=0 and free=6", true);
        may("fears=1", false);
        may("free<6", false);
        may("suits=38 and looks=7 and smell=3 and talk=2 and hour=0 and saw=0", true);
        may("liking=if(all,38,1)", true);
        Counted x = with("beast a wakes 0 to 23 at 1;beast b wakes 0 to 23 at 1;beast c wakes 0 to 23 at 1;"
            + "guest g 1 1 1 comes 0 to 23;guest h 1 1 1 comes 0 to 23;guest i 1 1 1 comes 0 to 23;fears g b;"
            + "ushers 3;may free=3 or fears=1 or free=1 and talk=1 and not fears=1;");
        due("asks(0, 0)", x.asks(0, 0), 0);
        due("asks(1, 0)", x.asks(1, 0), NONE);
        due("asks(2, 0)", x.asks(2, 0), NONE);
        // Liking in a may is cut to 0 .. 999.
        x = with(ONE + "likes 5000;may liking=999;");
        due("asks(0, 0)", x.asks(0, 0), 0);
    }

    private static void asks() {
        about = "promise 11";
        Counted x = with(PAIR);
        // Hour 0: lion likes ann 16, bob 7; seal sleeps. Hour 1: ann 8, bob 7, cy 24; hour 2: cy 12, ann 8.
        due("asks(0, 0)", x.asks(0, 0), 0);
        due("asks(1, 0)", x.asks(1, 0), NONE);
        due("asks(0, 1)", x.asks(0, 1), 2);
        due("asks(0, 2)", x.asks(0, 2), 2);
        due("asks(1, 2)", x.asks(1, 2), 1);
        due("asks(2, 0)", x.asks(2, 0), NONE);
        due("asks(-1, 0)", x.asks(-1, 0), NONE);
        due("asks(0, -1)", x.asks(0, -1), NONE);
        x = with(ONE + "likes 5;keeps 9;fears g a;");
        due("asks(0, 99)", x.asks(0, 99), 0);
        due("asks(0, 100)", x.asks(0, 100), NONE);
        due("has(5)", x.has(5), 0);
        due("has(8)", x.has(8), 0);
        due("has(9)", x.has(9), 0);
        x.toMoment(999, 21);
        due("asks(0, 2)", x.asks(0, 2), 0);
        due("asks(0, 3) beyond day 999", x.asks(0, 3), NONE);
    }

    private static void askingRules() {
        // Of like ones the first; one asked for is not asked for again in the hour; ushers run out.
        Counted x = with("beast a wakes 0 to 23 at 1;beast b wakes 0 to 23 at 1;beast c wakes 0 to 23 at 1;"
            + "guest g 1 1 1 comes 0 to 23;guest h 1 1 1 comes 0 to 23;guest i 1 1 2 comes 0 to 23;ushers 2;");
        due("asks(0, 0)", x.asks(0, 0), 2);
        due("asks(1, 0)", x.asks(1, 0), 0);
        due("asks(2, 0)", x.asks(2, 0), NONE);
        // Liked 0 is not asked for.
        x = with("beast a wakes 0 to 23 at 1;guest g 0 0 0 comes 0 to 23;");
        due("asks(0, 0)", x.asks(0, 0), NONE);
        // No usher at all.
        x = with(ONE + "ushers 0;");
        due("asks(0, 0)", x.asks(0, 0), NONE);
        // Refused: a fee, the usher and the guest taken, not seen; and asked again the next hour.
        x = with("beast a wakes 0 to 23 at 1;beast b wakes 0 to 23 at 1;guest g 1 1 1 comes 0 to 23;fears g a;");
        due("hours(3)", x.hours(3), 3);
        due("has(5)", x.has(5), 15);
        due("between(0, 0, 2)", x.between(0, 0, 2), 0);
        due("between(1, 0, 2)", x.between(1, 0, 2), 0);
        // Bored of by a, asked for by b from then on; kept by b, by none then.
        x = with("beast a wakes 0 to 23 at 1;beast b wakes 0 to 23 at 1;taste b 2 2 2;guest g 1 1 1 comes 0 to 23;"
            + "likes suits-saw*2;bores 2;keeps 2;");
        due("hours(1)", x.hours(1), 1);
        due("kept(0, 4)", x.kept(0, 4), 2);
        due("guest(0, 6)", x.guest(0, 6), 1);
        due("asks(1, 0)", x.asks(1, 0), 0);
        due("hours(1)", x.hours(1), 1);
        due("kept(1, 4)", x.kept(1, 4), 1);
        due("hours(1)", x.hours(1), 1);
        due("kept(2, 4), liked 2 as bores, seen twice", x.kept(2, 4), 3);
        due("guest(0, 7)", x.guest(0, 7), 1);
        due("hours(21)", x.hours(21), 0);
        due("guest(0, 6)", x.guest(0, 6), 0);
        // Bored goes ahead of keeping.
        x = with(ONE + "likes 3-saw;bores 2;keeps 2;");
        x.hours(2);
        due("kept(1, 4)", x.kept(1, 4), 2);
        due("guest(0, 7)", x.guest(0, 7), NONE);
    }

    private static void alone() {
        about = "promise 12";
        Counted x = with("beast a wakes 3 to 23 at 1;beast b wakes 1 to 2 at 1;guest g 1 1 1 comes 0 to 4;"
            + "guest h 1 1 1 comes 4 to 5;likes 5;keeps 9;");
        due("alone(0)", x.alone(0), 6);
        due("alone(1)", x.alone(1), 0);
        due("alone(2)", x.alone(2), NONE);
        due("alone(-1)", x.alone(-1), NONE);
        x.hours(6);
        due("alone(0) now", x.alone(0), 0);
        x = with("beast a wakes 0 to 23 at 1;beast b wakes 9 to 9 at 1;guest g 1 1 1 comes 0 to 23;likes 5;keeps 9;fears g a;");
        due("alone(0)", x.alone(0), 9);
        due("alone(1)", x.alone(1), 1);
        x = with(ONE + "likes 5;keeps 9;fears g a;");
        due("alone(0) never", x.alone(0), NONE);
        due("alone(1) never", x.alone(1), NONE);
        // Alone in the 100th hour ahead at the latest, and on day 999 at the latest.
        x = with("beast a wakes 3 to 3 at 1;guest g 1 1 1 comes 0 to 23;likes 5-saw;bores 0;");
        due("alone(0), the sixth day's hour 3 is the 123rd", x.alone(0), NONE);
        x.hours(24);
        due("alone(0) by then", x.alone(0), 99);
        x.toMoment(998, 0);
        due("alone(0) beyond day 999", x.alone(0), NONE);
    }

    private static void bring() {
        about = "promise 13";
        String three = "beast a wakes 0 to 23 at 1;beast b wakes 0 to 23 at 1;beast c wakes 5 to 23 at 1;taste a 1 0 0;taste b 0 1 0;"
            + "guest g 9 8 1 comes 0 to 23;guest h 5 1 1 comes 0 to 23;guest i 9 9 9 comes 1 to 23;";
        Counted x = with(three);
        // g to b and h to a: 8 + 5, more than g to a and h to b: 9 + 1.
        due("bring(NONE)", x.bring(NONE), 13);
        due("bring(0)", x.bring(0), 1);
        due("bring(1)", x.bring(1), 0);
        due("bring(2), asleep", x.bring(2), NONE);
        due("bring(3)", x.bring(3), NONE);
        due("bring(-2)", x.bring(-2), NONE);
        x = with(three + "ushers 1;may 1=2;");
        due("bring(NONE) with one usher", x.bring(NONE), 9);
        due("bring(0)", x.bring(0), 0);
        due("bring(1)", x.bring(1), NONE);
        x = with(three + "ushers 0;");
        due("bring(NONE) without ushers", x.bring(NONE), 0);
        x = with(three + "fears g a;fears g b;");
        due("bring(NONE) with fears", x.bring(NONE), 5);
        // Of like ones the first by beasts, none behind all.
        x = with("beast a wakes 0 to 23 at 1;beast b wakes 0 to 23 at 1;guest g 1 1 1 comes 0 to 23;guest h 1 1 1 comes 0 to 23;");
        due("bring(0)", x.bring(0), 0);
        due("bring(1)", x.bring(1), 1);
        x = with("beast a wakes 0 to 23 at 1;beast b wakes 0 to 23 at 1;guest g 1 1 1 comes 0 to 23;");
        due("bring(0)", x.bring(0), 0);
        due("bring(1)", x.bring(1), NONE);
        // Sent back, kept.
        x = with("beast a wakes 0 to 23 at 1;beast b wakes 1 to 23 at 1;taste b 2 2 2;guest g 1 1 1 comes 0 to 23;"
            + "likes suits-saw*2;bores 2;keeps 2;");
        x.hours(1);
        due("bring(0), sent back", x.bring(0), NONE);
        due("bring(1)", x.bring(1), 0);
        due("bring(NONE)", x.bring(NONE), 6);
        x.hours(2);
        due("bring(1), kept", x.bring(1), NONE);
    }

    private static void dress() {
        about = "promise 14";
        Counted x = with("beast a wakes 0 to 22 at 1;taste a 2 1 1;guest g 3 3 3 comes 0 to 23;guest h 3 3 5 comes 0 to 23;");
        // g suits 12, h 14: g must reach 14 (the first of like ones): looks and one.
        int[] want = {1, 4, 3, 3};
        for (int w = 0; w < 4; w++) {
            due("dress(0, 0, " + w + ")", x.dress(0, 0, w), want[w]);
        }
        int[] asIs = {0, 3, 3, 5};
        for (int w = 0; w < 4; w++) {
            due("dress(1, 0, " + w + ")", x.dress(1, 0, w), asIs[w]);
        }
        due("guest(0, 0) stays", x.guest(0, 0), 3);
        due("dress(0, 0, 4)", x.dress(0, 0, 4), NONE);
        due("dress(0, 0, -1)", x.dress(0, 0, -1), NONE);
        due("dress(2, 0, 0)", x.dress(2, 0, 0), NONE);
        due("dress(-1, 0, 0)", x.dress(-1, 0, 0), NONE);
        due("dress(0, 1, 0)", x.dress(0, 1, 0), NONE);
        due("dress(0, -1, 0)", x.dress(0, -1, 0), NONE);
        x.hours(23);
        due("dress(0, 0, 0), asleep", x.dress(0, 0, 0), NONE);
        // Of like changes the first by looks, then smell: one less of smell or of talk, or of looks.
        x = with("beast a wakes 0 to 23 at 1;guest g 3 3 3 comes 0 to 23;likes if(looks+smell+talk=8,5,0);");
        int[] first = {1, 2, 3, 3};
        for (int w = 0; w < 4; w++) {
            due("dress(0, 0, " + w + ")", x.dress(0, 0, w), first[w]);
        }
        // It must not look so that the beast ahead asks for it.
        x = with("beast a wakes 0 to 23 at 1;taste a 1 0 0;beast b wakes 0 to 23 at 1;taste b 0 1 0;"
            + "guest g 5 5 0 comes 0 to 23;guest h 4 4 0 comes 0 to 23;");
        int[] behind = {2, 3, 5, 0};
        for (int w = 0; w < 4; w++) {
            due("dress(0, 1, " + w + ")", x.dress(0, 1, w), behind[w]);
        }
        // Who fears it can be asked for; may counts.
        x = with(ONE + "fears g a;may talk>4;");
        due("dress(0, 0, 3)", x.dress(0, 0, 3), 5);
        due("dress(0, 0, 0)", x.dress(0, 0, 0), 4);
        x = with(ONE + "may 1=2;");
        due("dress(0, 0, 0)", x.dress(0, 0, 0), NONE);
        x = with(ONE + "bores 9;");
        x.hours(1);
        due("dress(0, 0, 0), sent back", x.dress(0, 0, 0), NONE);
        // 0 .. 9 each.
        x = with(ONE + "likes if(looks+smell+talk=0,5,0);");
        due("dress(0, 0, 0) down to nothing", x.dress(0, 0, 0), 3);
        x = with(ONE + "likes if(looks+smell+talk=27,5,0);");
        due("dress(0, 0, 0) up to all", x.dress(0, 0, 0), 24);
        x = with(ONE + "likes if(looks>9 or smell>9 or talk>9,5,0);");
        due("dress(0, 0, 0) beyond 9", x.dress(0, 0, 0), NONE);
        x = with(ONE + "likes if(looks<0 or smell<0 or talk<0,5,0);");
        due("dress(0, 0, 0) below 0", x.dress(0, 0, 0), NONE);
    }

    private static void tell() {
        about = "promise 15";
        Counted x = with(PAIR);
        due("tell() of nothing", x.tell(), NONE);
        x.put(0, 1, 2);
        due("tell() of three", x.tell(), NONE);
        x.put(0, 3);
        due("tell() of no guest", x.tell(), NONE);
        x.put(255, 0);
        due("tell() of no guest", x.tell(), NONE);
        x.put(0, 1, 1, 1);
        due("tell() of one twice", x.tell(), NONE);
        x.put(new int[34]);
        due("tell() of 17", x.tell(), NONE);
        due("status(5)", x.status(5), 6);
        due("has(11)", x.has(11), 0);
        int[] sixteen = new int[32];
        for (int i = 0; i < 32; i += 2) {
            sixteen[i] = 1;
        }
        x.put(sixteen);
        due("tell() of 16", x.tell(), 16);
        due("has(11)", x.has(11), 16);
        x.put(0, 3);
        due("tell() of no guest", x.tell(), NONE);
        due("has(11) stays", x.has(11), 16);
        due("the tape goes", x.end(1), false);
        x.put(2, 0);
        due("tell()", x.tell(), 1);
        due("has(11)", x.has(11), 1);
    }

    private static void tastes() {
        about = "promise 16";
        Counted x = with("guest g 5 0 0 comes 0 to 1;guest h 4 1 0 comes 0 to 1;guest i 5 0 0 comes 0 to 1;");
        due("tastes(0) of all", x.tastes(0), 1000);
        for (int w = 1; w <= 3; w++) {
            due("tastes(" + w + ")", x.tastes(w), 0);
            due("tastes(" + (w + 3) + ")", x.tastes(w + 3), 9);
        }
        due("tastes(7)", x.tastes(7), NONE);
        due("tastes(-1)", x.tastes(-1), NONE);
        x.put(0, 1);
        x.tell();
        // Looks more than smell: 45 of 100, times 10.
        int[] want = {450, 1, 0, 0, 9, 8, 9};
        for (int w = 0; w < 7; w++) {
            due("tastes(" + w + ")", x.tastes(w), want[w]);
        }
        x.put(0, 2);
        x.tell();
        due("tastes(0) of none", x.tastes(0), 0);
        for (int w = 1; w <= 6; w++) {
            due("tastes(" + w + ") of none", x.tastes(w), NONE);
        }
        x.change(2, 0, 0, 0);
        due("tastes(0) as guests look now", x.tastes(0), 900);
    }

    private static void send() {
        about = "promise 17";
        Counted x = with("guest g 1 0 0 comes 0 to 1;");
        due("send(0) of one guest", x.send(0), NONE);
        due("send(2) of one guest", x.send(2), NONE);
        x = with("guest g 1 0 0 comes 0 to 1;guest h 1 0 0 comes 0 to 1;guest i 0 1 0 comes 0 to 1;guest j 0 0 1 comes 0 to 1;");
        // g and h: all alike. g and i: 450, 450, 100, and so are others: the first.
        due("send(0)", x.send(0), 0);
        due("send(1)", x.send(1), 2);
        due("send(2)", x.send(2), 450);
        due("send(3)", x.send(3), NONE);
        due("send(-1)", x.send(-1), NONE);
        x.put(0, 1);
        x.tell();
        due("send(0) without a taste", x.send(0), NONE);
        due("send(1) without a taste", x.send(1), NONE);
        due("send(2) without a taste", x.send(2), NONE);
        x.put(0, 2);
        x.tell();
        // Looks above smell: 450 left. Looks against talk: sum of l * l = 285, of l * (9 - l) = 120, of l = 45.
        due("send(0)", x.send(0), 0);
        due("send(1)", x.send(1), 3);
        due("send(2)", x.send(2), 285);
    }

    private static void round() {
        about = "promise 18";
        // Held: by may a holds g, b holds h; each likes the other's more.
        Counted x = with("beast a wakes 0 to 23 at 1;beast b wakes 0 to 23 at 2;beast c wakes 1 to 23 at 3;"
            + "taste a 0 1 0;taste b 1 0 0;guest g 9 1 0 comes 0 to 23;guest h 1 9 0 comes 0 to 23;"
            + "may suits<5;");
        int[][] want = {{1, 1, 0}, {0, 1, 1}, {NONE, NONE, NONE}};
        for (int b = 0; b < 3; b++) {
            for (int w = 0; w < 3; w++) {
                due("round(" + b + ", " + w + ")", x.round(b, w), want[b][w]);
            }
        }
        due("round(0, 3)", x.round(0, 3), NONE);
        due("round(0, -1)", x.round(0, -1), NONE);
        due("round(3, 0)", x.round(3, 0), NONE);
        due("round(-1, 0)", x.round(-1, 0), NONE);
        // Two hold one guest; each has its own then. The ushers' number does not count.
        x = with("beast a wakes 0 to 23 at 1;beast b wakes 0 to 23 at 2;guest g 1 1 1 comes 0 to 23;ushers 1;may free=1;");
        due("round(1, 0)", x.round(1, 0), 0);
        due("round(1, 1)", x.round(1, 1), 1);
        x = with(ONE + "ushers 0;may free=1;");
        due("round(0, 2) with one usher at least", x.round(0, 2), 0);
        // a would like b's, b its own: a gets its own in the second round.
        x = with("beast a wakes 0 to 23 at 1;taste a 1 0 0;beast b wakes 0 to 23 at 2;taste b 0 0 2;"
            + "guest g 3 0 0 comes 0 to 23;guest h 9 0 9 comes 0 to 23;may suits<4 or suits=18;");
        due("round(0, 2)", x.round(0, 2), 0);
        due("round(1, 2)", x.round(1, 2), 1);
        due("round(0, 0)", x.round(0, 0), 0);
        due("round(0, 1)", x.round(0, 1), 2);
        due("round(1, 0)", x.round(1, 0), 1);
        due("round(1, 1)", x.round(1, 1), 1);
        rings();
    }

    private static void rings() {
        // All like the guests in one order: one leaves in each round, with its own.
        rounds(holders(6, "looks"), new int[] {0, 1, 2, 3, 4, 5}, new int[] {1, 2, 3, 4, 5, 6});
        // One ring of all.
        rounds(holders(6, "if(smell=suits/smell%6+1,9,1)"), new int[] {1, 2, 3, 4, 5, 0}, new int[] {1, 1, 1, 1, 1, 1});
        // The second and third swap; the first one waits, then has what is left.
        rounds(holders(3, "if(suits/smell=1,if(smell=2,9,if(smell=3,5,3)),if(suits/smell=2,if(smell=3,9,2),if(smell=2,9,2)))"),
            new int[] {0, 2, 1}, new int[] {2, 1, 1});
        // The first one likes the second guest most, the third one more than its own.
        rounds(holders(3, "if(suits/smell=1,if(smell=2,9,if(smell=3,5,3)),if(suits/smell=2,if(smell=1,9,2),if(smell=3,9,2)))"),
            new int[] {1, 0, 2}, new int[] {1, 1, 1});
        // Of like others the first, but its own ahead of these.
        rounds(holders(3, "if(suits/smell=1,if(smell=1,1,9),if(suits/smell=2,if(smell=1,9,2),9))"),
            new int[] {1, 0, 2}, new int[] {1, 1, 1});
        // Two rings in one round.
        rounds(holders(4, "if(smell=5-suits/smell,9,1)"), new int[] {3, 2, 1, 0}, new int[] {1, 1, 1, 1});
    }

    private static void walk() {
        about = "promise 19";
        StringBuilder text = new StringBuilder();
        int[] places = {10, 9, 8, 7, 6, 99};
        for (int i = 0; i < 6; i++) {
            text.append("beast b").append((char) ('a' + i)).append(" wakes 0 to 1 at ").append(places[i]).append(';');
        }
        Counted x = with(text.toString());
        due("walk(0, 1)", x.walk(0, 1), 0);
        due("walk(1, 1)", x.walk(1, 1), 20);
        due("walk(31, 1)", x.walk(31, 1), 80);
        // 10 + 9 against 8 + 7 + 6: 21; 10 + 8 and 9 + 7 + 6 are 22.
        due("walk(31, 2)", x.walk(31, 2), 42);
        // 10, 9 + 6, 8 + 7.
        due("walk(31, 3)", x.walk(31, 3), 30);
        due("walk(31, 4)", x.walk(31, 4), 26);
        due("walk(31, 5)", x.walk(31, 5), 20);
        due("walk(31, 6)", x.walk(31, 6), 20);
        due("walk(63, 2)", x.walk(63, 2), 198);
        due("walk(32, 6)", x.walk(32, 6), 198);
        due("walk(63, 1)", x.walk(63, 1), 278);
        due("walk(64, 1)", x.walk(64, 1), NONE);
        due("walk(-1, 1)", x.walk(-1, 1), NONE);
        due("walk(least, 1)", x.walk(Integer.MIN_VALUE, 1), NONE);
        due("walk(1, 0)", x.walk(1, 0), NONE);
        due("walk(1, 7)", x.walk(1, 7), NONE);
        due("walk(0, 0)", x.walk(0, 0), NONE);
    }

    private static void torn() {
        about = "promise 20";
        Counted x = with("beast a wakes 0 to 23 at 1;beast b wakes 0 to 23 at 2;guest g 1 1 1 comes 0 to 23;guest h 1 1 1 comes 2 to 23;"
            + "likes 5;keeps 9;fears h b;");
        // a sees g in each hour up to the 9th; b asks for h from hour 2 on, who refuses.
        due("torn() of nothing", x.torn(), NONE);
        x.put(0, 0, 0);
        due("torn() of three", x.torn(), NONE);
        x.put(2, 0);
        due("torn() of no beast", x.torn(), NONE);
        x.put(0, 2);
        due("torn() of no guest", x.torn(), NONE);
        x.put(new int[34]);
        due("torn() of 17", x.torn(), NONE);
        due("status(5)", x.status(5), 5);
        x.put(0, 0);
        due("torn()", x.torn(), 1);
        due("the tape goes", x.end(1), false);
        x.put(0, 0, 0, 0, 0, 0);
        due("torn() of three hours", x.torn(), 3);
        x.put(1, 1);
        due("torn() of who refuses", x.torn(), NONE);
        // Behind the 9th hour g is kept: a has h, b none. 16 rows: g 9 times, h 7 times.
        int[] rows = new int[32];
        for (int i = 19; i < 32; i += 2) {
            rows[i] = 1;
        }
        x.put(rows);
        due("torn() of 16", x.torn(), 16);
        x.put(0, 1, 0, 0);
        due("torn() in another order: h of one day, g of the next", x.torn(), 25);
        due("status(5)", x.status(5), 5);
        due("has(3)", x.has(3), 0);
        x.toMoment(999, 21);
        x.put(0, 0, 0, 0);
        due("torn() up to day 999, hour 23", x.torn(), 2);
        x.put(0, 0, 0, 0, 0, 0);
        due("torn() beyond it", x.torn(), NONE);
        // By the 100th hour at the latest.
        x = with("beast a wakes 4 to 4 at 1;guest g 1 1 1 comes 0 to 23;likes 5;");
        x.put(0, 0, 0, 0, 0, 0, 0, 0);
        due("torn() in the 77th", x.torn(), 77);
        x.put(new int[10]);
        due("torn() in the 101st", x.torn(), NONE);
        x.hours(1);
        x.put(new int[10]);
        due("torn() in the 100th", x.torn(), 100);
    }

    private static void hours() {
        about = "promise 21";
        Counted x = with(ONE + "likes 5;keeps 9;rain 100;");
        due("hours(0)", x.hours(0), NONE);
        due("hours(-1)", x.hours(-1), NONE);
        due("hours(201)", x.hours(201), NONE);
        due("status(2)", x.status(2), 3);
        due("hours(200)", x.hours(200), 8 * 9 + 8);
        due("has(2)", x.has(2), 8);
        due("has(3)", x.has(3), 8);
        due("has(10)", x.has(10), 1);
        due("has(9)", x.has(9), 1);
        x.toMoment(999, 20);
        due("hours(4)", x.hours(4), NONE);
        due("hours(3), seen for the ninth time", x.hours(3), 1);
        due("hours(1)", x.hours(1), NONE);
        due("has(2)", x.has(2), 999);
        due("has(3)", x.has(3), 23);
    }

    private static void chance() {
        about = "promise 22";
        Counted x = with(ONE + "likes 5;keeps 9;rain 50;");
        due("chance(0)", x.chance(0), NONE);
        due("chance(201)", x.chance(201), NONE);
        due("status(2)", x.status(2), 2);
        due("has(10)", x.has(10), 1);
        long seed = 1;
        int rained = 0;
        int asked = 0;
        for (int i = 0; i < 9; i++) {
            seed = (1103515245L * seed + 12345) % (1L << 31);
            boolean rains = seed / 64 % 100 < 50;
            rained += rains ? 1 : 0;
            asked += rains ? 0 : 1;
        }
        due("chance(9)", x.chance(9), rained);
        due("has(10)", x.has(10), (int) seed);
        due("has(8)", x.has(8), asked);
        due("has(3)", x.has(3), 9);
        due("has(9)", x.has(9), 1);
        x = with(ONE + "rain 100;");
        due("chance(200) in rain", x.chance(200), 200);
        due("has(8)", x.has(8), 0);
        due("has(2)", x.has(2), 8);
        x = with(ONE);
        due("chance(200) without rain", x.chance(200), 0);
        x.toMoment(999, 23);
        due("chance(1)", x.chance(1), NONE);
    }

    private static void change() {
        about = "promise 23";
        Counted x = with(PAIR);
        due("change", x.change(1, 9, 0, 4), true);
        due("guest(1, 0)", x.guest(1, 0), 9);
        due("guest(1, 1)", x.guest(1, 1), 0);
        due("guest(1, 2)", x.guest(1, 2), 4);
        due("guest(0, 0)", x.guest(0, 0), 5);
        due("change to the same", x.change(1, 9, 0, 4), false);
        due("change of one alone", x.change(1, 9, 0, 5), true);
        due("change to 10", x.change(1, 10, 0, 5), false);
        due("change to 10", x.change(1, 1, 10, 5), false);
        due("change to 10", x.change(1, 1, 0, 10), false);
        due("change to -1", x.change(1, -1, 0, 5), false);
        due("change to -1", x.change(1, 1, -1, 5), false);
        due("change to -1", x.change(1, 1, 0, -1), false);
        due("change of none", x.change(3, 1, 1, 1), false);
        due("change of none", x.change(-1, 1, 1, 1), false);
        due("status(3)", x.status(3), 9);
        due("has(9)", x.has(9), 2);
    }

    private static void train() {
        about = "promise 24";
        Counted x = with(PAIR);
        due("train", x.train(0, 9, 0, 4), true);
        due("beast(0, 3)", x.beast(0, 3), 9);
        due("beast(0, 4)", x.beast(0, 4), 0);
        due("beast(0, 5)", x.beast(0, 5), 4);
        due("beast(1, 3)", x.beast(1, 3), 1);
        due("between(0, 1, 0)", x.between(0, 1, 0), 25);
        due("train to the same", x.train(0, 9, 0, 4), false);
        due("train to 10", x.train(0, 10, 0, 4), false);
        due("train to 10", x.train(0, 1, 10, 4), false);
        due("train to 10", x.train(0, 1, 1, 10), false);
        due("train to -1", x.train(0, -1, 0, 4), false);
        due("train of none", x.train(2, 1, 1, 2), false);
        due("train of none", x.train(-1, 1, 1, 2), false);
        due("status(3)", x.status(3), 7);
        due("has(9)", x.has(9), 1);
    }

    private static void swap() {
        about = "promise 25";
        Counted x = with(PAIR + "keeps 9;");
        x.hours(28);
        int[] saw = {x.between(0, 0, 2), x.between(1, 0, 2), x.between(0, 0, 3), x.between(1, 0, 3),
            x.between(0, 2, 2), x.between(1, 2, 2), x.between(0, 2, 3), x.between(1, 2, 3)};
        int sent = x.guest(0, 6);
        due("swap(0, 1)", x.swap(0, 1), true);
        int[] now = {x.between(1, 0, 2), x.between(0, 0, 2), x.between(1, 0, 3), x.between(0, 0, 3),
            x.between(1, 2, 2), x.between(0, 2, 2), x.between(1, 2, 3), x.between(0, 2, 3)};
        for (int i = 0; i < 8; i++) {
            due("what they know, " + i, now[i], saw[i]);
        }
        due("they knew unlike things", saw[0] != saw[1] && saw[2] != saw[3] && saw[4] != saw[5], true);
        due("guest(0, 6)", x.guest(0, 6), sent);
        due("beast(0, 3)", x.beast(0, 3), 3);
        due("swap(0, 0)", x.swap(0, 0), false);
        due("swap(0, 2)", x.swap(0, 2), false);
        due("swap(2, 0)", x.swap(2, 0), false);
        due("swap(-1, 0)", x.swap(-1, 0), false);
        due("swap(0, -1)", x.swap(0, -1), false);
        due("status(3)", x.status(3), 5);
        due("has(9)", x.has(9), 2);
    }

    private static void undo() {
        about = "promise 26";
        Counted x = with(PAIR + "fee 3;keeps 2;rain 30;");
        due("undo() of nothing", x.undo(), false);
        due("status(4)", x.status(4), 1);
        String[] stood = new String[5];
        for (int i = 0; i < 5; i++) {
            stood[i] = Arrays.toString(x.picture());
            switch (i) {
                case 0: x.hours(30); break;
                case 1: x.chance(9); break;
                case 2: x.change(1, 7, 8, 9); break;
                case 3: x.swap(0, 1); break;
                default: x.train(0, 9, 8, 7);
            }
        }
        int seed = x.has(10);
        for (int i = 4; i >= 0; i--) {
            due("undo() of act " + i, x.undo(), true);
            due("all is as ahead of act " + i, Arrays.toString(x.picture()), stood[i]);
        }
        due("undo() beyond them", x.undo(), false);
        due("has(10)", x.has(10), seed);
        due("status(4)", x.status(4), 2);
        rowsComeBack();
        // Neither a refused act nor a look can be undone.
        x = with(ONE);
        x.hours(0);
        x.change(0, 1, 1, 1);
        x.seed(5);
        x.asks(0, 9);
        due("undo()", x.undo(), false);
    }

    /** Rows that had gone beyond the 60 come back. */
    private static void rowsComeBack() {
        Counted x = with(ONE + "likes 5;keeps 9;");
        for (int i = 0; i < 4; i++) {
            x.hours(200);
        }
        int oldest = x.kept(0, 0);
        int latest = x.kept(59, 0);
        x.hours(200);
        due("kept(0, 0) is another", x.kept(0, 0) > oldest, true);
        due("undo()", x.undo(), true);
        due("kept(0, 0)", x.kept(0, 0), oldest);
        due("kept(59, 0)", x.kept(59, 0), latest);
        due("has(8)", x.has(8), 60);
    }

    private static void seed() {
        about = "promise 27";
        Counted x = new Counted();
        due("seed(0)", x.seed(0), true);
        due("has(10)", x.has(10), 0);
        due("chance(1)", x.chance(1), 0);
        due("has(10)", x.has(10), 12345);
        due("seed(-1)", x.seed(-1), false);
        due("status(5)", x.status(5), 1);
        due("has(10)", x.has(10), 12345);
        due("seed(greatest)", x.seed(Integer.MAX_VALUE), true);
        due("has(10)", x.has(10), Integer.MAX_VALUE);
        x.chance(1);
        due("has(10)", x.has(10), (int) ((1103515245L * Integer.MAX_VALUE + 12345) % (1L << 31)));
        due("has(9)", x.has(9), 2);
    }

    private static void kept() {
        about = "promise 28";
        Counted x = with("beast z wakes 9 to 9 at 1;beast a wakes 22 to 23 at 1;beast b wakes 23 to 23 at 1;"
            + "guest y 1 1 1 comes 0 to 1;guest g 1 1 1 comes 0 to 23;guest h 1 1 1 comes 23 to 23;fears h b;likes 5;keeps 2;");
        x.hours(48);
        int[][] want = {{0, 9, 0, 1, 1}, {0, 22, 1, 1, 1}, {0, 23, 1, 1, 3}, {0, 23, 2, 2, 0},
            {1, 9, 0, 1, 1}, {1, 22, 1, 1, 1}, {1, 23, 1, 1, 3}, {1, 23, 2, 2, 0}};
        due("has(8)", x.has(8), want.length);
        for (int k = 0; k < want.length; k++) {
            for (int w = 0; w < 5; w++) {
                due("kept(" + k + ", " + w + ")", x.kept(k, w), want[k][w]);
            }
        }
        due("kept(8, 0)", x.kept(8, 0), NONE);
        due("kept(-1, 0)", x.kept(-1, 0), NONE);
        due("kept(0, 5)", x.kept(0, 5), NONE);
        due("kept(0, -1)", x.kept(0, -1), NONE);
        x.hours(200);
        x.hours(184);
        // 18 days of four rows: the last 15 of them are told.
        due("has(8)", x.has(8), 60);
        due("kept(0, 0)", x.kept(0, 0), 3);
        due("kept(59, 0)", x.kept(59, 0), 17);
        due("kept(59, 4)", x.kept(59, 4), 0);
        due("kept(60, 0)", x.kept(60, 0), NONE);
        x = with(ONE + "bores 9;");
        x.hours(1);
        due("kept(0, 4)", x.kept(0, 4), 2);
        // The last row that there can be.
        x = with(ONE);
        x.toMoment(999, 22);
        x.hours(1);
        due("kept(0, 0)", x.kept(0, 0), 999);
        due("kept(0, 1)", x.kept(0, 1), 22);
    }

    private static void image() {
        about = "promise 29";
        Counted x = new Counted();
        due("image() of nothing", x.image(), 6);
        x = with("beast a wakes 0 to 23 at 1;beast b wakes 0 to 23 at 2;taste b 0 2 9;guest g 1 1 1 comes 0 to 23;"
            + "guest h 3 2 5 comes 0 to 23;"
            + "guest i 0 0 9 comes 0 to 23;likes if(saw>1,looks,20+suits);bores 1;keeps 2;fears i b;fee 99;");
        due("hours", x.hours(200) > 0, true);
        for (int i = 0; i < 4; i++) {
            x.hours(200);
        }
        due("image()", x.image(), 6 + 15 + 2 * 9);
        int at = 0;
        int[] want = new int[39];
        want[at++] = x.has(2) / 256;
        want[at++] = x.has(2) % 256;
        want[at++] = x.has(3);
        want[at++] = x.has(5) / 256;
        want[at++] = x.has(5) % 256;
        for (int g = 0; g < 3; g++) {
            for (int k = 0; k < 3; k++) {
                want[at++] = x.guest(g, k);
            }
            want[at++] = x.guest(g, 7) + 1;
            want[at++] = x.guest(g, 6);
        }
        for (int b = 0; b < 2; b++) {
            for (int k = 3; k < 6; k++) {
                want[at++] = x.beast(b, k);
            }
            for (int g = 0; g < 3; g++) {
                want[at++] = x.between(b, g, 2);
                want[at++] = x.between(b, g, 3);
            }
        }
        want = Counted.checked(want);
        for (int k = 0; k < 39; k++) {
            due("octet(" + k + ")", x.octet(k), want[k]);
        }
        due("fees above 255", want[3] > 0, true);
        StringBuilder most = new StringBuilder();
        for (int i = 0; i < 8; i++) {
            most.append("guest g").append((char) ('a' + i)).append(" 1 1 1 comes 0 to 1;");
            if (i < 6) {
                most.append("beast b").append((char) ('a' + i)).append(" wakes 0 to 1 at 1;");
            }
        }
        due("image() of all that can be", with(most.toString()).image(), 5 + 40 + 6 * 19 + 1);
        due("image() is no act", x.has(9), 5);
    }

    private static void octet() {
        about = "promise 30";
        Counted x = new Counted();
        due("octet(0) ahead of any", x.octet(0), NONE);
        x.image();
        int c = 151;
        for (int k = 0; k < 5; k++) {
            due("octet(" + k + ")", x.octet(k), 0);
            c = 5 * c % 251;
        }
        due("octet(5)", x.octet(5), c);
        due("octet(6)", x.octet(6), NONE);
        due("octet(-1)", x.octet(-1), NONE);
        x.hours(3);
        due("octet(2) of the latest image()", x.octet(2), 0);
        x.image();
        due("octet(2)", x.octet(2), 3);
        x.read(ONE);
        due("octet(2) of the latest image()", x.octet(2), 3);
        due("octet(6)", x.octet(6), NONE);
    }

    /** An image of ONE with beasts a, b: with one byte put, and all counted again. */
    private static boolean reads(int place, int value) {
        Counted x = with("beast a wakes 0 to 23 at 1;beast b wakes 0 to 23 at 1;guest g 1 1 1 comes 0 to 23;");
        int[] bytes = {0, 3, 7, 1, 2, 4, 5, 6, 0, 0, 7, 8, 9, 50, 20, 1, 2, 3, 4, 0, 0};
        bytes[place] = value;
        bytes = Counted.checked(bytes);
        x.put(bytes);
        boolean read = x.on();
        due("status(5)", x.status(5), read ? 0 : 1);
        due("has(2)", x.has(2), read ? bytes[0] * 256 + bytes[1] : 0);
        return read;
    }

    private static void on() {
        about = "promise 31";
        Counted x = with("beast a wakes 0 to 23 at 1;beast b wakes 0 to 23 at 1;guest g 1 1 1 comes 0 to 23;guest h 1 1 1 comes 0 to 23;");
        x.put(0, 1);
        x.tell();
        x.hours(3);
        int[] bytes = {3, 231, 23, 39, 15, 9, 8, 7, 2, 0, 1, 2, 3, 0, 3, 4, 5, 6, 99, 99, 1, 0, 7, 8, 9, 0, 0, 12, 3, 0};
        bytes = Counted.checked(bytes);
        x.put(bytes);
        due("on()", x.on(), true);
        int[] want = {2, 2, 999, 23, 6, 9999, 2, 1, 0, 0, 1, 1};
        for (int w = 0; w < want.length; w++) {
            due("has(" + w + ")", x.has(w), want[w]);
        }
        int[] guests = {9, 8, 7, 0, 23, 0, 0, 1, 1, 2, 3, 0, 23, 0, 3, NONE};
        for (int i = 0; i < 16; i++) {
            due("guest(" + i / 8 + ", " + i % 8 + ")", x.guest(i / 8, i % 8), guests[i]);
        }
        int[] beasts = {4, 5, 6, 7, 8, 9};
        for (int i = 0; i < 6; i++) {
            due("beast(" + i / 3 + ", " + (3 + i % 3) + ")", x.beast(i / 3, 3 + i % 3), beasts[i]);
        }
        int[] saw = {99, 99, 1, 0, 0, 0, 12, 3};
        for (int i = 0; i < 8; i++) {
            due("between " + i, x.between(i / 4, i / 2 % 2, 2 + i % 2), saw[i]);
        }
        due("undo()", x.undo(), false);
        due("the tape goes", x.end(1), false);
        due("image()", x.image(), bytes.length);
        for (int k = 0; k < bytes.length; k++) {
            due("octet(" + k + ")", x.octet(k), bytes[k]);
        }
        // A wrong sum, a byte too few, too many, nothing.
        bytes[29] ^= 1;
        x.put(bytes);
        due("on() with a wrong sum", x.on(), false);
        due("the tape goes", x.end(1), false);
        x.put(Arrays.copyOf(bytes, 29));
        due("on() with a byte too few", x.on(), false);
        x.put(Arrays.copyOf(bytes, 31));
        due("on() with a byte too many", x.on(), false);
        due("on() of nothing", x.on(), false);
        due("has(2) stays", x.has(2), 999);
        // Each limit.
        int[][] good = {{0, 0}, {0, 2}, {1, 255}, {2, 23}, {3, 38}, {4, 255}, {5, 9}, {6, 9}, {7, 9}, {8, 1}, {8, 2}, {9, 3}, {10, 9},
            {11, 9}, {12, 9}, {13, 99}, {13, 20}, {14, 50}, {14, 0}, {15, 0}, {18, 0}};
        int[][] bad = {{0, 4}, {0, 255}, {2, 24}, {3, 40}, {5, 10}, {6, 10}, {7, 10}, {8, 3}, {8, 255}, {9, 4}, {9, 255}, {10, 10},
            {11, 10}, {12, 10}, {13, 100}, {13, 19}, {14, 51}, {15, 10}, {16, 10}, {17, 10}, {18, 100}, {19, 5}};
        for (int[] g : good) {
            due("on() with byte " + g[0] + " as " + g[1], reads(g[0], g[1]), true);
        }
        for (int[] b : bad) {
            due("on() with byte " + b[0] + " as " + b[1], reads(b[0], b[1]), false);
        }
        // Seen 99 times at most, on this day too.
        x = with(ONE + "likes 5;keeps 9;");
        int[] much = {0, 0, 0, 0, 0, 1, 1, 1, 0, 0, 1, 1, 1, 99, 99, 0};
        much = Counted.checked(much);
        x.put(much);
        due("on()", x.on(), true);
        due("hours(1)", x.hours(1), 1);
        due("between(0, 0, 2)", x.between(0, 0, 2), 99);
        due("between(0, 0, 3)", x.between(0, 0, 3), 99);
        // The whole of an empty zoo.
        x = new Counted();
        int[] empty = {1, 0, 5, 1, 0, 0};
        empty = Counted.checked(empty);
        x.put(empty);
        due("on() of no beasts", x.on(), true);
        due("has(2)", x.has(2), 256);
        due("has(5)", x.has(5), 256);
    }

    private static void status() {
        about = "promise 32";
        Counted x = with(ONE);
        for (int w = 0; w < 6; w++) {
            due("status(" + w + ")", x.status(w), 0);
        }
        due("status(6)", x.status(6), NONE);
        due("status(-1)", x.status(-1), NONE);
        x.end(9);
        x.read("x");
        x.read("x");
        x.hours(0);
        x.chance(0);
        x.hours(0);
        x.change(9, 0, 0, 0);
        x.train(9, 0, 0, 0);
        x.swap(0, 0);
        x.swap(0, 0);
        for (int i = 0; i < 5; i++) {
            x.undo();
        }
        x.seed(-1);
        x.tell();
        x.torn();
        x.on();
        x.on();
        x.on();
        int[] want = {1, 2, 3, 4, 5, 6};
        for (int w = 0; w < 6; w++) {
            due("status(" + w + ")", x.status(w), want[w]);
        }
        // What only looks is never refused; a good zoo leaves the counts as they are.
        x.asks(9, 9);
        x.walk(99, 9);
        x.dress(9, 9, 9);
        x.bring(9);
        x.kept(9, 9);
        x.read(ONE);
        for (int w = 0; w < 6; w++) {
            due("status(" + w + ") stays", x.status(w), want[w]);
        }
    }
}

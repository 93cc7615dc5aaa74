/** Terms, I: how SUMS and TESTS are told, and what they come to. */
final class SumBounds extends Answers {
    private static final String SCENE = " suits saw hour looks smell talk ";

    private SumBounds() {
    }

    // ---- how they are told

    @Says("SUM: PRODUCT { + or - PRODUCT }.")
    static void sums() {
        likes("7", 7);
        likes("7+1", 8);
        likes("7-1", 6);
        likes("7+1-2+3-4", 5);
        likes("1" + "+1".repeat(700), 701);
        faulty("likes ;", 1, 6);
        faulty("likes +7;", 1, 6);
        faulty("likes -7;", 1, 6);
        faulty("likes 7+;", 1, 8);
        faulty("likes 7-;", 1, 8);
        faulty("likes 7+-1;", 1, 8);
        faulty("likes 7 7;", 1, 8);
    }

    @Says("PRODUCT: PART { * or / or % PART }.")
    static void products() {
        likes("7*2", 14);
        likes("7/2", 3);
        likes("7%4", 3);
        likes("2*3*4/5%3", 1);
        likes("1" + "*1".repeat(700), 1);
        likes("2+3*4", 14);
        likes("20-8/4", 18);
        likes("9-7%4", 6);
        faulty("likes *7;", 1, 6);
        faulty("likes 7*;", 1, 8);
        faulty("likes 7/;", 1, 8);
        faulty("likes 7%;", 1, 8);
        faulty("likes 7**1;", 1, 8);
        faulty("likes 7*-1;", 1, 8);
    }

    @Says("PART: N; suits; saw; hour; looks; smell; talk;")
    static void parts() {
        likes("0", 0);
        likes("9999-9001", 998);
        for (String word : TextBounds.OWN.split(" ")) {
            String text = "likes " + word + ";";
            if (SCENE.contains(" " + word + " ")) {
                whole(text, 1);
            } else if (word.matches("min|max|if")) {
                faulty(text, 1, 6 + word.length());
            } else {
                faulty(text, 1, 6);
            }
        }
        faulty("likes [1];", 1, 6);
        faulty("likes name;", 1, 6);
    }

    @Says("in may: liking; fears; free;")
    static void partsOfMay() {
        for (String word : new String[] {"liking", "fears", "free"}) {
            whole("may " + word + ">0;", 1);
            whole("may 0<if(" + word + "=1,(" + word + "),min(1," + word + "));", 1);
            faulty("likes " + word + ";", 1, 6);
            faulty("likes if(" + word + "=1,1,2);", 1, 9);
            faulty("may " + word + "=1;likes " + word + ";", 1, 4 + word.length() + 9);
        }
        for (String word : TextBounds.OWN.split(" ")) {
            String text = "may " + word + ">0;";
            if (SCENE.contains(" " + word + " ") || word.matches("liking|fears|free")) {
                whole(text, 1);
            } else if (word.matches("min|max|if|not|all")) {
                faulty(text, 1, 4 + word.length());
            } else {
                faulty(text, 1, 4);
            }
        }
    }

    @Says("( SUM ) ; min ( SUM , SUM ) ; max ( SUM , SUM ) ;")
    static void brackets() {
        likes("(7)", 7);
        likes("(2+3)*4", 20);
        likes("2*(3+4)", 14);
        likes("10-(3-2)", 9);
        likes("min(3,5)*10+max(3,5)", 35);
        likes("min(5,3)*10+max(5,3)", 35);
        likes("min(4,4)*10+max(4,4)", 44);
        likes("9+min(0-1,1)", 8);
        likes("9+max(0-1,0-2)", 8);
        faulty("likes ();", 1, 7);
        faulty("likes (1;", 1, 8);
        faulty("likes (1,2);", 1, 8);
        faulty("likes min 1;", 1, 10);
        faulty("likes min();", 1, 10);
        faulty("likes min(1);", 1, 11);
        faulty("likes max(1,);", 1, 12);
        faulty("likes max(1,2,3);", 1, 13);
        faulty("likes max(1,2;", 1, 13);
    }

    @Says("if ( TEST , SUM , SUM ) (the first SUM where the TEST holds, else the second one).")
    static void choices() {
        likes("if(all,7,8)", 7);
        likes("if(not all,7,8)", 8);
        likes("if(1=1 and 1=2 or 2=2,7,8)", 7);
        likes("if(all,if(not all,7,8),9)", 8);
        likes("if(not all,7,if(all,8,9))", 8);
        likes("if(all,0,8)", 0);
        likes("if(not all,7,0)", 0);
        likes("1+if(all,2,3)*4", 9);
        // Whichever is not taken does no harm.
        likes("if(all,7,7/0)", 7);
        faulty("likes if all,1,2;", 1, 9);
        faulty("likes if(1,2,3);", 1, 10);
        faulty("likes if(all);", 1, 12);
        faulty("likes if(all,1);", 1, 14);
        faulty("likes if(all,1,2,3);", 1, 16);
        faulty("likes if(all,all,1);", 1, 13);
    }

    @Says("TEST: BOTH { or BOTH }. BOTH: FACT { and FACT }.")
    static void bothAndEither() {
        String[] facts = {"1=2", "1=1"};
        for (int i = 0; i < 8; i++) {
            boolean a = i >= 4;
            boolean b = i / 2 % 2 == 1;
            boolean c = i % 2 == 1;
            String fa = facts[i / 4];
            String fb = facts[i / 2 % 2];
            String fc = facts[i % 2];
            may(fa + " or " + fb + " or " + fc, a || b || c);
            may(fa + " and " + fb + " and " + fc, a && b && c);
            may(fa + " or " + fb + " and " + fc, a || b && c);
            may(fa + " and " + fb + " or " + fc, a && b || c);
            may("[" + fa + " or " + fb + "] and " + fc, (a || b) && c);
            may("not " + fa + " or not " + fb + " and not " + fc, !a || !b && !c);
        }
        may("1=2" + " or 1=2".repeat(180) + " or 1=1", true);
        may("1=1" + " and 1=1".repeat(160) + " and 1=2", false);
        faulty("may ;", 1, 4);
        faulty("may or all;", 1, 4);
        faulty("may all or;", 1, 10);
        faulty("may all and;", 1, 11);
        faulty("may all or and all;", 1, 11);
    }

    @Says("FACT: not FACT; [ TEST ] ; all;")
    static void facts() {
        may("all", true);
        may("not all", false);
        may("not not all", true);
        may("not not not all", false);
        may("[all]", true);
        may("[not all]", false);
        may("not [all]", false);
        may("not [1=2 or 1=2]", true);
        may("not 1=2 and 1=2", false);
        may("not [1=2 and 1=2]", true);
        faulty("may not;", 1, 7);
        faulty("may [];", 1, 5);
        faulty("may [all;", 1, 8);
        faulty("may all];", 1, 7);
        faulty("may (all);", 1, 5);
        faulty("may not=1;", 1, 7);
    }

    @Says("SUM SIGN SUM, SIGN < or > or = .")
    static void signs() {
        int[][] pairs = {{1, 2}, {2, 2}, {3, 2}};
        for (int[] p : pairs) {
            may(p[0] + "<" + p[1], p[0] < p[1]);
            may(p[0] + ">" + p[1], p[0] > p[1]);
            may(p[0] + "=" + p[1], p[0] == p[1]);
        }
        may("0-1<0", true);
        may("0-1>0", false);
        may("0-2<0-1", true);
        may("1+1=4/2", true);
        for (String holds : new String[] {"1<2", "2>1", "1=1"}) {
            may("not " + holds, false);
            may("not not " + holds, true);
            may(holds + " and all", true);
            may("all and " + holds + " and 1=1", true);
            may("not all or " + holds, true);
            likes("if(" + holds + ",7,8)", 7);
        }
        faulty("may 1;", 1, 5);
        faulty("may 1<;", 1, 6);
        faulty("may <1;", 1, 4);
        faulty("may 1<=2;", 1, 6);
        faulty("may 1==2;", 1, 6);
        faulty("may 1=2=3;", 1, 7);
        faulty("may 1!2;", 1, 5);
    }

    // ---- what they tell of

    private static Counted liked(String tastes, String traits, String rest) {
        return with("beast a wakes 0 to 23 at 1;taste a " + tastes + ";guest g " + traits + " comes 0 to 23;" + rest);
    }

    @Says("(Of a BEAST and a GUEST: LOOKS, SMELL, TALK of the GUEST, each times how the BEAST likes them, together;")
    static void suits() {
        due("suits", liked("4 5 6", "1 2 3", "likes suits;").between(0, 0, 1), 32);
        due("suits at most", liked("9 9 9", "9 9 9", "likes suits;").between(0, 0, 1), 243);
        due("suits at least", liked("0 0 0", "9 9 9", "likes suits;").between(0, 0, 1), 0);
        due("suits at least", liked("9 9 9", "0 0 0", "likes suits;").between(0, 0, 1), 0);
        due("suits by looks", liked("9 0 0", "8 7 6", "likes suits;").between(0, 0, 1), 72);
        due("suits by smell", liked("0 9 0", "8 7 6", "likes suits;").between(0, 0, 1), 63);
        due("suits by talk", liked("0 0 9", "8 7 6", "likes suits;").between(0, 0, 1), 54);
    }

    @Says("how often it SAW him;")
    static void saw() {
        Counted x = with(ONE + "likes saw+1;bores 0;keeps 9;");
        due("between(0, 0, 1) at first", x.between(0, 0, 1), 1);
        x.hours(1);
        due("between(0, 0, 1) once seen", x.between(0, 0, 1), 2);
        x.hours(23);
        due("between(0, 0, 1) in all, the next day", x.between(0, 0, 1), 10);
        x.become(13, 99, 14, 0);
        due("between(0, 0, 1) at most", x.between(0, 0, 1), 100);
        // Of this beast and this guest alone.
        x = with(TWO + "likes saw+1;keeps 9;ushers 1;");
        x.hours(3);
        due("between(0, 0, 1)", x.between(0, 0, 1), 4);
        due("between(0, 1, 1)", x.between(0, 1, 1), 1);
        due("between(1, 0, 1)", x.between(1, 0, 1), 1);
    }

    @Says("the HOUR; these of the GUEST;")
    static void hourAndTraits() {
        Counted x = with("beast a wakes 0 to 23 at 1;guest g 0 5 9 comes 5 to 6;likes hour+1;");
        due("between(0, 0, 1) in hour 0", x.between(0, 0, 1), 1);
        x.hours(23);
        due("between(0, 0, 1) in hour 23", x.between(0, 0, 1), 24);
        x.hours(1);
        due("between(0, 0, 1) in the next hour 0", x.between(0, 0, 1), 1);
        due("traits 0 0 9", liked("7 7 7", "0 0 9", "likes looks*100+smell*10+talk;").between(0, 0, 1), 9);
        due("traits 0 9 0", liked("7 7 7", "0 9 0", "likes looks*100+smell*10+talk;").between(0, 0, 1), 90);
        due("traits 9 0 0", liked("7 7 7", "9 0 0", "likes looks*100+smell*10+talk;").between(0, 0, 1), 900);
    }

    @Says("how it likes him;")
    static void liking() {
        due("liking at most", with(ONE + "likes 5000;may liking=999;").asks(0, 0), 0);
        due("liking at most", with(ONE + "likes 5000;may liking>999;").asks(0, 0), NONE);
        due("liking 1", with(ONE + "likes 1;may liking=1;").asks(0, 0), 0);
        due("liking of another", with(TWO + "taste b 2 2 2;may liking=6;").asks(1, 0), 0);
        // Without likes, too; it goes down as he is seen.
        Counted x = with(ONE + "may liking>1;");
        due("asks(0, 0)", x.asks(0, 0), 0);
        x.hours(1);
        due("asks(0, 0) once seen", x.asks(0, 0), NONE);
    }

    @Says("1 if he fears it, else 0;")
    static void fears() {
        String text = TWO + "fears g a;fears h b;";
        Counted x = with(text + "may fears=1;");
        due("asks(0, 0)", x.asks(0, 0), 0);
        due("asks(1, 0)", x.asks(1, 0), 1);
        x = with(text + "may fears=0;");
        due("asks(0, 0)", x.asks(0, 0), 1);
        due("asks(1, 0)", x.asks(1, 0), 0);
        x = with(text + "may fears>1 or fears<0;");
        due("asks(0, 0)", x.asks(0, 0), NONE);
    }

    @Says("ushers that are free.)")
    static void free() {
        String six = beasts(6) + guests(8);
        // All six are free for the first one, one for the last one; a fewer number by one with each asking.
        for (int free = 0; free <= 7; free++) {
            due("hours(1) by free=" + free, with(six + "may free=" + free + ";").hours(1), free == 6 ? 1 : 0);
            due("hours(1) by free>" + free, with(six + "may free>" + free + ";").hours(1), Math.max(0, 6 - free));
        }
        due("hours(1) by free<7", with(six + "may free<7;").hours(1), 6);
        due("hours(1) by free=2", with(six + "ushers 2;may free=2;").hours(1), 1);
        due("hours(1) by free=1", with(six + "ushers 2;may free=1;").hours(1), 0);
        due("hours(1) by free=0", with(six + "ushers 0;may free=0;").hours(1), 0);
        // Each hour anew.
        Counted x = with(six + "ushers 2;may free=2;");
        x.hours(1);
        due("hours(1) again", x.hours(1), 1);
    }

    // ---- what they come to

    @Says("All from the left on;")
    static void fromTheLeft() {
        likes("10-3-2", 5);
        likes("10-3+2", 9);
        likes("100/7/2", 7);
        likes("100/(7/2)", 33);
        likes("7%4*2", 6);
        likes("2*7/4", 3);
        likes("2*(7/4)", 2);
        likes("9/2*2", 8);
        likes("100-50/7%4", 97);
    }

    @Says("/ gives the greatest whole number not above, % what is left (a less b times that);")
    static void wholeNumbers() {
        // 20 is added so that what is below 0 can be told.
        likes("20+7/2", 23);
        likes("20+6/2", 23);
        likes("20+(0-7)/2", 16);
        likes("20+(0-6)/2", 17);
        likes("20+(0-1)/9999", 19);
        likes("20+1/(0-9999)", 19);
        likes("20+7/(0-2)", 16);
        likes("20+(0-7)/(0-2)", 23);
        likes("20+0/7", 20);
        likes("20+7%2", 21);
        likes("20+6%3", 20);
        likes("20+(0-7)%2", 21);
        likes("20+(0-6)%3", 20);
        likes("20+7%(0-2)", 19);
        likes("20+(0-7)%(0-2)", 19);
        likes("20+(0-7)%9", 22);
        likes("20+7%(0-9)", 18);
        likes("20+(1000*1000)%(0-3)", 18);
        likes("20+(0-1000*1000)/(0-1)/1000/1000", 21);
    }

    @Says("by 0 both give 0;")
    static void byZero() {
        likes("5+7/0", 5);
        likes("5+7%0", 5);
        likes("5+(0-7)/0", 5);
        likes("5+(0-7)%0", 5);
        likes("5+0/0", 5);
        likes("5+0%0", 5);
        likes("5+9/(3-3)*9", 5);
        likes("5+9%saw", 5);
    }

    @Says("each result above 10 to the 6 is that, below -10 to the 6 likewise.")
    static void millions() {
        // 500 and as much as the result is above 999000, or 1500 and as much as it is above -1000 to the 2.
        String top = "-999*1000-500";
        likes("999*1001" + top, 499);
        likes("1000*1000" + top, 500);
        likes("1000*1000+1" + top, 500);
        likes("1000*1001" + top, 500);
        likes("9999*9999" + top, 500);
        likes("999*1001-(0-9)" + top, 500);
        likes("(0-1000)*(0-1001)" + top, 500);
        likes("9999*9999*9999*9999" + top, 500);
        likes("1000*1000*1000*1000" + top, 500);
        String bottom = "+999*1000+1500";
        likes("(0-999)*1001" + bottom, 501);
        likes("(0-1000)*1000" + bottom, 500);
        likes("(0-1000)*1000-1" + bottom, 500);
        likes("(0-1000)*1001" + bottom, 500);
        likes("(0-9999)*9999" + bottom, 500);
        likes("(0-1000)*1000+(0-1)" + bottom, 500);
        likes("(0-9999)*9999*9999*9999" + bottom, 500);
        likes("9999*9999*((0-9999)*9999)" + bottom, 500);
        likes("if(9999*9999=1000*1000,7,8)", 7);
        likes("if((0-9999)*9999=0-1000*1000,7,8)", 7);
    }
}

import java.util.ArrayList;
import java.util.List;
import java.util.Random;

/** Random zoos, whole ones and ones with something wrong in them. */
final class ZooTexts {
    private final Random random;
    private boolean inMay;

    private ZooTexts(Random random) {
        this.random = random;
    }

    static String whole(Random random) {
        return new ZooTexts(random).zoo();
    }

    /** One or two bytes or pieces of a whole zoo changed: mostly, but not always, a fault. */
    static String broken(Random random) {
        StringBuilder text = new StringBuilder(whole(random));
        String[] pieces = {" ", "\n", ";", "(", ")", "[", "]", ",", "+", "<", "not ", "not not not not ", "(((((((", "[[[[[[[[",
            "beast", " min", "all", "a", "abcdefg", "7", "12345", "10", "24", "100", "x", "%", "A", "\t", "~", "\u00e9", " taste ",
            ";likes 1", ";may all", ";fee 1;rain 0", " 0", "9 9", "if(", " wakes ", " ba", " ga", "fears ga ba;"};
        int times = 1 + random.nextInt(2);
        for (int i = 0; i < times && text.length() > 0; i++) {
            int at = random.nextInt(text.length());
            String piece = pieces[random.nextInt(pieces.length)];
            switch (random.nextInt(5)) {
                case 0: text.deleteCharAt(at); break;
                case 1: text.insert(at, piece); break;
                case 2: text.replace(at, Math.min(text.length(), at + 1 + random.nextInt(4)), piece); break;
                case 3: text.setLength(at); break;
                default: {
                    int to = random.nextInt(text.length());
                    text.insert(to, text.substring(at, Math.min(text.length(), at + random.nextInt(60))));
                }
            }
        }
        return text.toString();
    }

    private int below(int n) {
        return random.nextInt(n);
    }

    private String blank() {
        return below(6) == 0 ? below(2) == 0 ? " " : "\n" : "";
    }

    private String span() {
        int from = below(3) == 0 ? below(24) : below(6);
        int to = from + below(24 - from);
        return from + " to " + (below(2) == 0 ? 23 : to);
    }

    private static String name(char kind, int i) {
        String[] tails = {"a", "bb", "ccc", "dddd", "eeeee", "f", "g", "hh"};
        return kind + tails[i];
    }

    private String zoo() {
        int beasts = below(8) == 0 ? below(2) : 1 + below(6);
        int guests = below(8) == 0 ? below(2) : 1 + below(8);
        List<String> lines = new ArrayList<>();
        for (int i = 0; i < beasts; i++) {
            lines.add("beast " + name('b', i) + " wakes " + span() + " at " + below(100));
        }
        for (int i = 0; i < guests; i++) {
            lines.add("guest " + name('g', i) + " " + below(10) + " " + below(10) + " " + below(10) + " comes " + span());
        }
        for (int i = 0; i < beasts; i++) {
            if (below(4) != 0) {
                lines.add("taste " + name('b', i) + " " + below(10) + " " + below(10) + " " + below(10));
            }
        }
        for (int i = 0; i < beasts * guests; i++) {
            if (below(7) == 0) {
                lines.add("fears " + name('g', i % guests) + " " + name('b', i / guests));
            }
        }
        if (below(3) != 0) {
            inMay = false;
            lines.add("likes " + blank() + likes());
        }
        if (below(2) == 0) {
            inMay = true;
            lines.add("may " + blank() + test(3));
        }
        String[] settings = {"ushers " + below(7), "bores " + below(30), "keeps " + (2 + below(8)), "fee " + below(100),
            "rain " + below(101)};
        for (String s : settings) {
            if (below(2) == 0) {
                lines.add(s);
            }
        }
        StringBuilder text = new StringBuilder();
        for (String line : lines) {
            text.append(blank()).append(line).append(blank()).append(';').append(blank());
        }
        return text.toString();
    }

    /** Mostly something that grows with what suits, so that there is something to ask for. */
    private String likes() {
        switch (below(4)) {
            case 0: return "suits-saw*" + below(30);
            case 1: return "suits+" + sum(2);
            case 2: return "max(" + sum(2) + ",suits)/(1+saw)";
            default: return sum(3);
        }
    }

    private String sum(int depth) {
        StringBuilder s = new StringBuilder(product(depth));
        for (int i = below(3); i > 0; i--) {
            s.append(blank()).append(below(2) == 0 ? '+' : '-').append(blank()).append(product(depth));
        }
        return s.toString();
    }

    private String product(int depth) {
        StringBuilder s = new StringBuilder(part(depth));
        for (int i = below(5) == 0 ? 1 + below(2) : 0; i > 0; i--) {
            s.append("*/%".charAt(below(3))).append(blank()).append(part(depth));
        }
        return s.toString();
    }

    private String part(int depth) {
        String[] words = {"suits", "saw", "hour", "looks", "smell", "talk"};
        String[] more = {"liking", "fears", "free"};
        switch (below(depth > 0 ? 9 : 5)) {
            case 0: return "" + below(below(5) == 0 ? 10000 : 20);
            case 1: case 2: case 3: return words[below(words.length)];
            case 4: return inMay ? more[below(3)] : "suits";
            case 5: return "(" + sum(depth - 1) + ")";
            case 6: return "min" + blank() + "(" + sum(depth - 1) + "," + sum(depth - 1) + ")";
            case 7: return "max(" + sum(depth - 1) + blank() + "," + sum(depth - 1) + ")";
            default: return "if(" + test(depth - 1) + "," + sum(depth - 1) + "," + sum(depth - 1) + blank() + ")";
        }
    }

    private String test(int depth) {
        StringBuilder s = new StringBuilder(both(depth));
        for (int i = below(3) == 0 ? 1 : 0; i > 0; i--) {
            s.append(" or ").append(both(depth));
        }
        return s.toString();
    }

    private String both(int depth) {
        StringBuilder s = new StringBuilder(fact(depth));
        for (int i = below(3) == 0 ? 1 : 0; i > 0; i--) {
            s.append(" and ").append(fact(depth));
        }
        return s.toString();
    }

    private String fact(int depth) {
        switch (below(depth > 0 ? 8 : 6)) {
            case 0: return "all";
            case 6: return "not " + fact(depth - 1);
            case 7: return "[" + test(depth - 1) + "]";
            default: return sum(Math.max(0, depth - 1)) + "<>=".charAt(below(3)) + sum(0);
        }
    }
}

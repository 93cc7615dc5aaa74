import java.math.BigInteger;
import java.util.ArrayDeque;
import java.util.ArrayList;
import java.util.Arrays;
import java.util.Deque;
import java.util.HashMap;
import java.util.HashSet;
import java.util.List;
import java.util.Map;
import java.util.Set;
import java.util.TreeMap;

/**
 * The document once more, written for plainness alone: every search tries all there is, every hour is
 * played asking by asking, every act keeps a whole copy. RandomRunsTest holds BeastsChoose against it.
 */
final class ZooModel {
    static final int NONE = -1;
    static final Set<String> OWN = new HashSet<>(Arrays.asList(("beast wakes to at taste guest comes fears likes may "
        + "ushers bores keeps fee rain suits saw hour looks smell talk liking free if or and not all min max").split(" ")));

    interface Expr {
        long of(Map<String, Long> scene);
    }

    static final class Beast {
        String name;
        int from, to, place;
        int[] taste = {1, 1, 1};
    }

    static final class Guest {
        String name;
        int from, to;
        int[] traits = new int[3];
        Set<Integer> fears = new HashSet<>();
    }

    static final class Text {
        List<Beast> beasts = new ArrayList<>();
        List<Guest> guests = new ArrayList<>();
        Expr likes, may;
        int ushers = 6, bores = 1, keeps = 3, fee = 5, rain = 0, statements = 0;
    }

    static final class Now {
        int day, hour, fees;
        List<int[]> traits = new ArrayList<>();
        List<int[]> tastes = new ArrayList<>();
        Map<List<Integer>, Integer> saw = new HashMap<>();
        Map<List<Integer>, Integer> today = new HashMap<>();
        Set<List<Integer>> sent = new HashSet<>();
        Map<Integer, Integer> kept = new HashMap<>();
        List<int[]> rows = new ArrayList<>();

        Now copy() {
            Now n = new Now();
            n.day = day;
            n.hour = hour;
            n.fees = fees;
            for (int[] t : traits) {
                n.traits.add(t.clone());
            }
            for (int[] t : tastes) {
                n.tastes.add(t.clone());
            }
            n.saw.putAll(saw);
            n.today.putAll(today);
            n.sent.addAll(sent);
            n.kept.putAll(kept);
            n.rows.addAll(rows);
            return n;
        }
    }

    static final class Fault extends RuntimeException {
        private static final long serialVersionUID = 1;
        final int kind, place;

        Fault(int kind, int place) {
            super(null, null, false, false);
            this.kind = kind;
            this.place = place;
        }
    }

    List<Integer> tape = new ArrayList<>();
    Text zoo = new Text();
    Now now = new Now();
    Deque<Now> past = new ArrayDeque<>();
    List<int[]> told = new ArrayList<>();
    List<Integer> image = new ArrayList<>();
    long seed = 1;
    int faultKind = 0, faultPlace = NONE;
    int[] refused = new int[6];

    // ---- the text

    static final class Reading {
        final String text;
        int at = 0;
        int open = 0;
        boolean inMay;
        Text zoo = new Text();

        Reading(String text) {
            this.text = text;
        }

        int begin() {
            int p = at;
            while (p < text.length() && (text.charAt(p) == ' ' || text.charAt(p) == '\n')) {
                p++;
            }
            return p;
        }

        static boolean wordy(char c) {
            return c >= 'a' && c <= 'z' || c >= '0' && c <= '9';
        }

        /** The token that comes, "" at the end; throws where it can't be read. */
        String peek() {
            int p = begin();
            if (p >= text.length()) {
                return "";
            }
            char c = text.charAt(p);
            if (!wordy(c)) {
                return text.substring(p, p + 1);
            }
            if (p > 0 && p == at && wordy(text.charAt(p - 1))) {
                throw new Fault(1, p);
            }
            boolean digits = c <= '9';
            int q = p;
            while (q < text.length() && wordy(text.charAt(q)) && (text.charAt(q) <= '9') == digits) {
                q++;
            }
            int most = digits ? 4 : 6;
            if (q - p > most) {
                throw new Fault(1, p + most);
            }
            return text.substring(p, q);
        }

        void next() {
            int length = peek().length();
            at = begin() + length;
        }

        void must(String token) {
            if (!peek().equals(token)) {
                throw new Fault(1, begin());
            }
            next();
        }

        int number(int low, int high) {
            String s = peek();
            if (!s.matches("[0-9]+")) {
                throw new Fault(1, begin());
            }
            int n = Integer.parseInt(s);
            if (n < low || n > high) {
                throw new Fault(4, begin());
            }
            next();
            return n;
        }

        String name() {
            String s = peek();
            if (!s.matches("[a-z]+") || OWN.contains(s)) {
                throw new Fault(1, begin());
            }
            return s;
        }

        int beastNamed(String s) {
            for (int i = 0; i < zoo.beasts.size(); i++) {
                if (zoo.beasts.get(i).name.equals(s)) {
                    return i;
                }
            }
            return NONE;
        }

        int guestNamed(String s) {
            for (int i = 0; i < zoo.guests.size(); i++) {
                if (zoo.guests.get(i).name.equals(s)) {
                    return i;
                }
            }
            return NONE;
        }

        String freshName() {
            String s = name();
            if (beastNamed(s) != NONE || guestNamed(s) != NONE) {
                throw new Fault(2, begin());
            }
            next();
            return s;
        }

        Text all() {
            while (begin() < text.length()) {
                if (zoo.statements == 80) {
                    throw new Fault(6, begin());
                }
                one();
                must(";");
                zoo.statements++;
            }
            return zoo;
        }

        void one() {
            int start = begin();
            String word = peek();
            switch (word) {
                case "beast": {
                    if (zoo.beasts.size() == 6) {
                        throw new Fault(6, start);
                    }
                    next();
                    Beast b = new Beast();
                    b.name = freshName();
                    must("wakes");
                    b.from = number(0, 23);
                    must("to");
                    b.to = number(b.from, 23);
                    must("at");
                    b.place = number(0, 99);
                    zoo.beasts.add(b);
                    break;
                }
                case "taste": {
                    next();
                    int b = beastNamed(name());
                    if (b == NONE) {
                        throw new Fault(3, begin());
                    }
                    next();
                    int[] t = {number(0, 9), number(0, 9), number(0, 9)};
                    zoo.beasts.get(b).taste = t;
                    break;
                }
                case "guest": {
                    if (zoo.guests.size() == 8) {
                        throw new Fault(6, start);
                    }
                    next();
                    Guest g = new Guest();
                    g.name = freshName();
                    for (int k = 0; k < 3; k++) {
                        g.traits[k] = number(0, 9);
                    }
                    must("comes");
                    g.from = number(0, 23);
                    must("to");
                    g.to = number(g.from, 23);
                    zoo.guests.add(g);
                    break;
                }
                case "fears": {
                    next();
                    int g = guestNamed(name());
                    if (g == NONE) {
                        throw new Fault(3, begin());
                    }
                    next();
                    int b = beastNamed(name());
                    if (b == NONE || !zoo.guests.get(g).fears.add(b)) {
                        throw new Fault(3, begin());
                    }
                    next();
                    break;
                }
                case "likes":
                    if (zoo.likes != null) {
                        throw new Fault(6, start);
                    }
                    next();
                    inMay = false;
                    zoo.likes = sum();
                    break;
                case "may":
                    if (zoo.may != null) {
                        throw new Fault(6, start);
                    }
                    next();
                    inMay = true;
                    zoo.may = test();
                    break;
                case "ushers":
                    next();
                    zoo.ushers = number(0, 6);
                    break;
                case "bores":
                    next();
                    zoo.bores = number(0, 99);
                    break;
                case "keeps":
                    next();
                    zoo.keeps = number(2, 9);
                    break;
                case "fee":
                    next();
                    zoo.fee = number(0, 99);
                    break;
                case "rain":
                    next();
                    zoo.rain = number(0, 100);
                    break;
                default:
                    throw new Fault(1, start);
            }
        }

        static long cut(BigInteger x) {
            BigInteger m = BigInteger.valueOf(1000000);
            return x.min(m).max(m.negate()).longValue();
        }

        static long count(char sign, long a, long b) {
            BigInteger x = BigInteger.valueOf(a);
            BigInteger y = BigInteger.valueOf(b);
            if (sign == '+') {
                return cut(x.add(y));
            }
            if (sign == '-') {
                return cut(x.subtract(y));
            }
            if (sign == '*') {
                return cut(x.multiply(y));
            }
            if (b == 0) {
                return 0;
            }
            BigInteger q = BigInteger.valueOf((long) Math.floor((double) a / (double) b));
            return sign == '/' ? cut(q) : cut(x.subtract(y.multiply(q)));
        }

        Expr sum() {
            Expr left = product();
            while (peek().equals("+") || peek().equals("-")) {
                char sign = peek().charAt(0);
                next();
                Expr a = left;
                Expr b = product();
                left = s -> count(sign, a.of(s), b.of(s));
            }
            return left;
        }

        Expr product() {
            Expr left = part();
            while (peek().equals("*") || peek().equals("/") || peek().equals("%")) {
                char sign = peek().charAt(0);
                next();
                Expr a = left;
                Expr b = part();
                left = s -> count(sign, a.of(s), b.of(s));
            }
            return left;
        }

        void open(String what) {
            if (!peek().equals(what)) {
                throw new Fault(1, begin());
            }
            open++;
            if (open == 8) {
                throw new Fault(5, begin());
            }
            next();
        }

        void close(String what) {
            must(what);
            open--;
        }

        Expr part() {
            String s = peek();
            if (s.matches("[0-9]+")) {
                long n = Long.parseLong(s);
                next();
                return scene -> n;
            }
            switch (s) {
                case "liking":
                case "fears":
                case "free":
                    if (!inMay) {
                        throw new Fault(1, begin());
                    }
                    next();
                    return scene -> scene.get(s);
                case "suits":
                case "saw":
                case "hour":
                case "looks":
                case "smell":
                case "talk":
                    next();
                    return scene -> scene.get(s);
                case "(": {
                    open("(");
                    Expr a = sum();
                    close(")");
                    return a;
                }
                case "min":
                case "max": {
                    next();
                    open("(");
                    Expr a = sum();
                    must(",");
                    Expr b = sum();
                    close(")");
                    return s.equals("min") ? c -> Math.min(a.of(c), b.of(c)) : c -> Math.max(a.of(c), b.of(c));
                }
                case "if": {
                    next();
                    open("(");
                    Expr t = test();
                    must(",");
                    Expr a = sum();
                    must(",");
                    Expr b = sum();
                    close(")");
                    return c -> t.of(c) == 1 ? a.of(c) : b.of(c);
                }
                default:
                    throw new Fault(1, begin());
            }
        }

        Expr test() {
            Expr left = both();
            while (peek().equals("or")) {
                next();
                Expr a = left;
                Expr b = both();
                left = c -> a.of(c) == 1 || b.of(c) == 1 ? 1 : 0;
            }
            return left;
        }

        Expr both() {
            Expr left = fact();
            while (peek().equals("and")) {
                next();
                Expr a = left;
                Expr b = fact();
                left = c -> a.of(c) == 1 && b.of(c) == 1 ? 1 : 0;
            }
            return left;
        }

        Expr fact() {
            switch (peek()) {
                case "not": {
                    open("not");
                    Expr a = fact();
                    open--;
                    return c -> a.of(c) == 1 ? 0 : 1;
                }
                case "[": {
                    open("[");
                    Expr a = test();
                    close("]");
                    return a;
                }
                case "all":
                    next();
                    return c -> 1;
                default: {
                    Expr a = sum();
                    String sign = peek();
                    if (!sign.equals("<") && !sign.equals(">") && !sign.equals("=")) {
                        throw new Fault(1, begin());
                    }
                    next();
                    Expr b = sum();
                    if (sign.equals("<")) {
                        return c -> a.of(c) < b.of(c) ? 1 : 0;
                    }
                    return sign.equals(">") ? c -> a.of(c) > b.of(c) ? 1 : 0 : c -> a.of(c) == b.of(c) ? 1 : 0;
                }
            }
        }
    }

    // ---- hours

    boolean isBeast(int b) {
        return b >= 0 && b < zoo.beasts.size();
    }

    boolean isGuest(int g) {
        return g >= 0 && g < zoo.guests.size();
    }

    boolean awake(int b, Now n) {
        return n.hour >= zoo.beasts.get(b).from && n.hour <= zoo.beasts.get(b).to;
    }

    boolean there(int g, Now n) {
        return n.hour >= zoo.guests.get(g).from && n.hour <= zoo.guests.get(g).to;
    }

    boolean fears(int g, int b) {
        return zoo.guests.get(g).fears.contains(b);
    }

    static int dot(int[] a, int[] b) {
        return a[0] * b[0] + a[1] * b[1] + a[2] * b[2];
    }

    Map<String, Long> scene(Now n, int b, int g) {
        Map<String, Long> s = new TreeMap<>();
        s.put("suits", (long) dot(n.traits.get(g), n.tastes.get(b)));
        s.put("saw", (long) n.saw.getOrDefault(List.of(b, g), 0));
        s.put("hour", (long) n.hour);
        s.put("looks", (long) n.traits.get(g)[0]);
        s.put("smell", (long) n.traits.get(g)[1]);
        s.put("talk", (long) n.traits.get(g)[2]);
        return s;
    }

    int likes(Now n, int b, int g) {
        Map<String, Long> s = scene(n, b, g);
        long v = zoo.likes == null ? s.get("suits") / (1 + s.get("saw")) : zoo.likes.of(s);
        return (int) (v < 0 ? 0 : v > 999 ? 999 : v);
    }

    boolean may(Now n, int b, int g, int free) {
        if (zoo.may == null) {
            return true;
        }
        Map<String, Long> s = scene(n, b, g);
        s.put("liking", (long) likes(n, b, g));
        s.put("fears", fears(g, b) ? 1L : 0L);
        s.put("free", (long) free);
        return zoo.may.of(s) == 1;
    }

    int wish(Now n, int b, Set<Integer> asked, int free) {
        int best = NONE;
        if (!awake(b, n) || free <= 0) {
            return NONE;
        }
        for (int g = zoo.guests.size() - 1; g >= 0; g--) {
            if (!there(g, n) || n.sent.contains(List.of(b, g)) || n.kept.containsKey(g) || asked.contains(g)) {
                continue;
            }
            if (likes(n, b, g) <= 0 || !may(n, b, g, free)) {
                continue;
            }
            if (best == NONE || likes(n, b, g) >= likes(n, b, best)) {
                best = g;
            }
        }
        return best;
    }

    /** Plays an hour without moving the clock: rows of beast, guest, outcome. */
    List<int[]> play(Now n) {
        List<int[]> rows = new ArrayList<>();
        Set<Integer> asked = new HashSet<>();
        int free = zoo.ushers;
        for (int b = 0; b < zoo.beasts.size(); b++) {
            int g = wish(n, b, asked, free);
            if (g == NONE) {
                continue;
            }
            asked.add(g);
            free--;
            int outcome;
            List<Integer> pair = List.of(b, g);
            if (fears(g, b)) {
                n.fees = Math.min(9999, n.fees + zoo.fee);
                outcome = 0;
            } else {
                n.saw.put(pair, Math.min(99, n.saw.getOrDefault(pair, 0) + 1));
                n.today.put(pair, Math.min(99, n.today.getOrDefault(pair, 0) + 1));
                if (likes(n, b, g) < zoo.bores) {
                    n.sent.add(pair);
                    outcome = 2;
                } else if (n.today.get(pair) >= zoo.keeps) {
                    n.kept.put(g, b);
                    outcome = 3;
                } else {
                    outcome = 1;
                }
            }
            rows.add(new int[] {b, g, outcome});
            n.rows.add(new int[] {n.day, n.hour, b, g, outcome});
        }
        while (n.rows.size() > 60) {
            n.rows.remove(0);
        }
        return rows;
    }

    void clock(Now n) {
        n.hour++;
        if (n.hour == 24) {
            n.hour = 0;
            n.day++;
            n.sent.clear();
            n.kept.clear();
            n.today.clear();
        }
    }

    int refuse(int k) {
        refused[k]++;
        return NONE;
    }

    void keep() {
        past.addLast(now.copy());
        while (past.size() > 20) {
            past.removeFirst();
        }
    }

    // ---- the calls

    int feed(int... numbers) {
        if (tape.size() + 20 > 1600) {
            return refuse(0);
        }
        for (int n : numbers) {
            for (int k = 3; k >= 0; k--) {
                tape.add((int) (((long) n & 0xffffffffL) / (1L << 8 * k) % 256));
            }
        }
        return tape.size();
    }

    boolean end(int n) {
        if (n < 0 || n > tape.size()) {
            refuse(0);
            return false;
        }
        tape = new ArrayList<>(tape.subList(0, n));
        return true;
    }

    List<Integer> takeTape() {
        List<Integer> t = tape;
        tape = new ArrayList<>();
        return t;
    }

    int zoo() {
        StringBuilder text = new StringBuilder();
        for (int c : takeTape()) {
            text.append((char) c);
        }
        try {
            zoo = new Reading(text.toString()).all();
        } catch (Fault f) {
            faultKind = f.kind;
            faultPlace = f.place;
            return refuse(1);
        }
        faultKind = 0;
        faultPlace = NONE;
        now = new Now();
        for (Beast b : zoo.beasts) {
            now.tastes.add(b.taste.clone());
        }
        for (Guest g : zoo.guests) {
            now.traits.add(g.traits.clone());
        }
        past.clear();
        told.clear();
        return zoo.statements;
    }

    int fault(int what) {
        return what == 0 ? faultKind : what == 1 ? faultPlace : NONE;
    }

    int has(int what) {
        int there = 0;
        for (int g = 0; g < zoo.guests.size(); g++) {
            there += there(g, now) ? 1 : 0;
        }
        int[] all = {zoo.beasts.size(), zoo.guests.size(), now.day, now.hour, zoo.ushers, now.fees, there,
            now.kept.size(), now.rows.size(), past.size(), (int) seed, told.size()};
        return what >= 0 && what < all.length ? all[what] : NONE;
    }

    int letter(int kind, int which, int k) {
        if (k < 0 || k > 5 || kind != 0 && kind != 1 || !(kind == 0 ? isBeast(which) : isGuest(which))) {
            return NONE;
        }
        String s = kind == 0 ? zoo.beasts.get(which).name : zoo.guests.get(which).name;
        return k < s.length() ? s.charAt(k) - 96 : 0;
    }

    int beast(int b, int what) {
        if (!isBeast(b) || what < 0 || what > 7) {
            return NONE;
        }
        int first = NONE;
        for (int g = zoo.guests.size() - 1; g >= 0; g--) {
            if (now.kept.getOrDefault(g, NONE) == b) {
                first = g;
            }
        }
        int[] t = now.tastes.get(b);
        Beast x = zoo.beasts.get(b);
        return new int[] {x.from, x.to, x.place, t[0], t[1], t[2], awake(b, now) ? 1 : 0, first}[what];
    }

    int guest(int g, int what) {
        if (!isGuest(g) || what < 0 || what > 7) {
            return NONE;
        }
        int feared = 0;
        int sent = 0;
        for (int b = 0; b < zoo.beasts.size(); b++) {
            feared += fears(g, b) ? 1 << b : 0;
            sent += now.sent.contains(List.of(b, g)) ? 1 << b : 0;
        }
        int[] t = now.traits.get(g);
        Guest x = zoo.guests.get(g);
        return new int[] {t[0], t[1], t[2], x.from, x.to, feared, sent, now.kept.getOrDefault(g, NONE)}[what];
    }

    int between(int b, int g, int what) {
        if (!isBeast(b) || !isGuest(g) || what < 0 || what > 3) {
            return NONE;
        }
        return new int[] {dot(now.traits.get(g), now.tastes.get(b)), likes(now, b, g),
            now.saw.getOrDefault(List.of(b, g), 0), now.today.getOrDefault(List.of(b, g), 0)}[what];
    }

    /** Whether the hour so many ahead is still one of day 999 or earlier. */
    boolean stands(int ahead) {
        return now.day * 24 + now.hour + ahead < 24000;
    }

    int asks(int beast, int n) {
        if (!isBeast(beast) || n < 0 || n > 99 || !stands(n)) {
            return NONE;
        }
        Now a = now.copy();
        for (int i = 0; i < n; i++) {
            play(a);
            clock(a);
        }
        for (int[] row : play(a)) {
            if (row[0] == beast) {
                return row[1];
            }
        }
        return NONE;
    }

    int alone(int what) {
        Now a = now.copy();
        for (int i = 0; i < 100 && stands(i) && (what == 0 || what == 1); i++) {
            Set<Integer> asking = new HashSet<>();
            for (int[] row : play(a)) {
                asking.add(row[0]);
            }
            for (int b = 0; b < zoo.beasts.size(); b++) {
                if (awake(b, a) && !asking.contains(b)) {
                    return what == 0 ? i : b;
                }
            }
            clock(a);
        }
        return NONE;
    }

    int[] bestBringing;
    int bestLiked;

    void tryBringing(int[] so, int b, int liked, int ushers) {
        if (b == so.length) {
            if (bestBringing == null || liked > bestLiked) {
                bestBringing = so.clone();
                bestLiked = liked;
            }
            return;
        }
        for (int g = 0; g < zoo.guests.size() && ushers > 0 && awake(b, now); g++) {
            boolean free = there(g, now) && !now.sent.contains(List.of(b, g)) && !now.kept.containsKey(g)
                && likes(now, b, g) > 0 && !fears(g, b);
            for (int c = 0; c < b; c++) {
                free &= so[c] != g;
            }
            if (free) {
                so[b] = g;
                tryBringing(so, b + 1, liked + likes(now, b, g), ushers - 1);
            }
        }
        so[b] = NONE;
        tryBringing(so, b + 1, liked, ushers);
    }

    int bring(int beast) {
        if (beast != NONE && !isBeast(beast)) {
            return NONE;
        }
        bestBringing = null;
        tryBringing(new int[zoo.beasts.size()], 0, 0, zoo.ushers);
        return beast == NONE ? bestLiked : bestBringing[beast];
    }

    int dress(int guest, int beast, int what) {
        if (!isGuest(guest) || !isBeast(beast) || what < 0 || what > 3) {
            return NONE;
        }
        int[] t = now.traits.get(guest);
        for (int sum = 0; sum <= 27; sum++) {
            for (int l = 0; l <= 9; l++) {
                for (int s = 0; s <= 9; s++) {
                    for (int k = 0; k <= 9; k++) {
                        if (Math.abs(l - t[0]) + Math.abs(s - t[1]) + Math.abs(k - t[2]) != sum) {
                            continue;
                        }
                        Now a = now.copy();
                        a.traits.set(guest, new int[] {l, s, k});
                        for (int[] row : play(a)) {
                            if (row[0] == beast && row[1] == guest) {
                                return new int[] {sum, l, s, k}[what];
                            }
                        }
                    }
                }
            }
        }
        return NONE;
    }

    List<int[]> pairs(List<Integer> t, int firsts, int seconds) {
        if (t.size() % 2 == 1 || t.isEmpty() || t.size() > 32) {
            return null;
        }
        List<int[]> rows = new ArrayList<>();
        for (int i = 0; i < t.size(); i += 2) {
            if (t.get(i) >= firsts || t.get(i + 1) >= seconds) {
                return null;
            }
            rows.add(new int[] {t.get(i), t.get(i + 1)});
        }
        return rows;
    }

    int tell() {
        List<int[]> rows = pairs(takeTape(), zoo.guests.size(), zoo.guests.size());
        if (rows == null) {
            return refuse(5);
        }
        for (int[] r : rows) {
            if (r[0] == r[1]) {
                return refuse(5);
            }
        }
        told = rows;
        return rows.size();
    }

    List<int[]> left() {
        List<int[]> found = new ArrayList<>();
        for (int i = 0; i < 1000; i++) {
            int[] t = {i / 100, i / 10 % 10, i % 10};
            boolean good = true;
            for (int[] r : told) {
                good &= dot(t, now.traits.get(r[0])) > dot(t, now.traits.get(r[1]));
            }
            if (good) {
                found.add(t);
            }
        }
        return found;
    }

    int tastes(int what) {
        List<int[]> found = left();
        if (what == 0) {
            return found.size();
        }
        if (what < 0 || what > 6) {
            return NONE;
        }
        int k = (what - 1) % 3;
        return what <= 3 ? found.stream().mapToInt(t -> t[k]).min().orElse(NONE)
            : found.stream().mapToInt(t -> t[k]).max().orElse(NONE);
    }

    int send(int what) {
        List<int[]> found = left();
        int[] best = null;
        for (int a = 0; a < zoo.guests.size(); a++) {
            for (int b = a + 1; b < zoo.guests.size(); b++) {
                int[] counts = new int[3];
                for (int[] t : found) {
                    counts[1 + Integer.compare(dot(t, now.traits.get(a)), dot(t, now.traits.get(b)))]++;
                }
                Arrays.sort(counts);
                if (best == null || counts[2] < best[2]) {
                    best = new int[] {a, b, counts[2]};
                }
            }
        }
        return found.isEmpty() || best == null || what < 0 || what > 2 ? NONE : best[what];
    }

    int round(int beast, int what) {
        if (!isBeast(beast) || what < 0 || what > 2) {
            return NONE;
        }
        Map<Integer, Integer> holds = new TreeMap<>();
        for (int b = 0; b < zoo.beasts.size(); b++) {
            int g = wish(now, b, new HashSet<>(), Math.max(1, zoo.ushers));
            if (g != NONE) {
                holds.put(b, g);
            }
        }
        if (!holds.containsKey(beast)) {
            return NONE;
        }
        if (what == 2) {
            return holds.get(beast);
        }
        for (int r = 1; ; r++) {
            Map<Integer, Integer> points = new TreeMap<>();
            for (int b : holds.keySet()) {
                int most = 0;
                for (int g : holds.values()) {
                    most = Math.max(most, likes(now, b, g));
                }
                int at = NONE;
                for (int c : holds.keySet()) {
                    if (at == NONE && likes(now, b, holds.get(c)) == most) {
                        at = c;
                    }
                }
                points.put(b, likes(now, b, holds.get(b)) == most ? b : at);
            }
            List<Integer> leaving = new ArrayList<>();
            for (int b : holds.keySet()) {
                Set<Integer> met = new HashSet<>();
                int c = b;
                while (met.add(c)) {
                    c = points.get(c);
                }
                if (c == b) {
                    leaving.add(b);
                }
            }
            if (leaving.contains(beast)) {
                return what == 0 ? holds.get(points.get(beast)) : r;
            }
            leaving.forEach(holds::remove);
        }
    }

    int walk(int beasts, int ushers) {
        if (beasts < 0 || beasts >= 1 << zoo.beasts.size() || ushers < 1 || ushers > 6) {
            return NONE;
        }
        return share(beasts, 0, new int[ushers]);
    }

    int share(int beasts, int b, int[] steps) {
        if (b == zoo.beasts.size()) {
            return Arrays.stream(steps).max().getAsInt();
        }
        if ((beasts >> b & 1) == 0) {
            return share(beasts, b + 1, steps);
        }
        int best = Integer.MAX_VALUE;
        for (int u = 0; u < steps.length; u++) {
            steps[u] += 2 * zoo.beasts.get(b).place;
            best = Math.min(best, share(beasts, b + 1, steps));
            steps[u] -= 2 * zoo.beasts.get(b).place;
        }
        return best;
    }

    int torn() {
        List<int[]> rows = pairs(takeTape(), zoo.beasts.size(), zoo.guests.size());
        if (rows == null) {
            return refuse(5);
        }
        Deque<int[]> wanted = new ArrayDeque<>(rows);
        Now a = now.copy();
        for (int i = 1; i <= 100 && stands(i); i++) {
            for (int[] row : play(a)) {
                if (!wanted.isEmpty() && row[2] != 0 && wanted.peek()[0] == row[0] && wanted.peek()[1] == row[1]) {
                    wanted.pop();
                }
            }
            if (wanted.isEmpty()) {
                return i;
            }
            clock(a);
        }
        return NONE;
    }

    int hours(int n) {
        if (n < 1 || n > 200 || !stands(n)) {
            return refuse(2);
        }
        keep();
        int asked = 0;
        for (int i = 0; i < n; i++) {
            asked += play(now).size();
            clock(now);
        }
        return asked;
    }

    int chance(int n) {
        if (n < 1 || n > 200 || !stands(n)) {
            return refuse(2);
        }
        keep();
        int rained = 0;
        for (int i = 0; i < n; i++) {
            seed = BigInteger.valueOf(1103515245).multiply(BigInteger.valueOf(seed)).add(BigInteger.valueOf(12345))
                .mod(BigInteger.ONE.shiftLeft(31)).longValue();
            if (seed / 64 % 100 < zoo.rain) {
                rained++;
            } else {
                play(now);
            }
            clock(now);
        }
        return rained;
    }

    boolean replace(List<int[]> rows, int which, int... values) {
        boolean good = which >= 0 && which < rows.size() && !Arrays.equals(rows.get(which), values);
        for (int v : values) {
            good &= v >= 0 && v <= 9;
        }
        if (good) {
            keep();
            rows.set(which, values);
        } else {
            refuse(3);
        }
        return good;
    }

    boolean change(int guest, int looks, int smell, int talk) {
        return replace(now.traits, guest, looks, smell, talk);
    }

    boolean train(int beast, int looks, int smell, int talk) {
        return replace(now.tastes, beast, looks, smell, talk);
    }

    boolean swap(int first, int second) {
        if (!isBeast(first) || !isBeast(second) || first == second) {
            refuse(3);
            return false;
        }
        keep();
        for (int g = 0; g < zoo.guests.size(); g++) {
            for (Map<List<Integer>, Integer> m : List.of(now.saw, now.today)) {
                int a = m.getOrDefault(List.of(first, g), 0);
                m.put(List.of(first, g), m.getOrDefault(List.of(second, g), 0));
                m.put(List.of(second, g), a);
            }
        }
        return true;
    }

    boolean undo() {
        if (past.isEmpty()) {
            refuse(4);
            return false;
        }
        now = past.removeLast();
        return true;
    }

    boolean seed(int s) {
        if (s < 0) {
            refuse(5);
            return false;
        }
        seed = s;
        return true;
    }

    int kept(int k, int what) {
        return k < 0 || k >= now.rows.size() || what < 0 || what > 4 ? NONE : now.rows.get(k)[what];
    }

    List<Integer> written() {
        List<Integer> w = new ArrayList<>(Arrays.asList(now.day / 256, now.day % 256, now.hour, now.fees / 256, now.fees % 256));
        for (int g = 0; g < zoo.guests.size(); g++) {
            for (int v : now.traits.get(g)) {
                w.add(v);
            }
            w.add(guest(g, 7) + 1);
            w.add(guest(g, 6));
        }
        for (int b = 0; b < zoo.beasts.size(); b++) {
            for (int v : now.tastes.get(b)) {
                w.add(v);
            }
            for (int g = 0; g < zoo.guests.size(); g++) {
                w.add(between(b, g, 2));
                w.add(between(b, g, 3));
            }
        }
        w.add(checked(w));
        return w;
    }

    static int checked(List<Integer> bytes) {
        int c = 151;
        for (int b : bytes) {
            c = (5 * c + b) % 251;
        }
        return c;
    }

    int image() {
        image = written();
        return image.size();
    }

    int octet(int k) {
        return k < 0 || k >= image.size() ? NONE : image.get(k);
    }

    boolean on() {
        Now n = decoded(takeTape());
        if (n == null) {
            refuse(5);
            return false;
        }
        now = n;
        past.clear();
        return true;
    }

    Now decoded(List<Integer> t) {
        int beasts = zoo.beasts.size();
        int guests = zoo.guests.size();
        if (t.size() != 6 + 5 * guests + beasts * (3 + 2 * guests)
            || checked(t.subList(0, t.size() - 1)) != t.get(t.size() - 1)) {
            return null;
        }
        Now n = new Now();
        n.day = t.get(0) * 256 + t.get(1);
        n.hour = t.get(2);
        n.fees = t.get(3) * 256 + t.get(4);
        boolean good = n.day <= 999 && n.hour <= 23 && n.fees <= 9999;
        int at = 5;
        for (int g = 0; g < guests; g++, at += 5) {
            int[] traits = {t.get(at), t.get(at + 1), t.get(at + 2)};
            n.traits.add(traits);
            good &= traits[0] <= 9 && traits[1] <= 9 && traits[2] <= 9;
            good &= t.get(at + 3) <= beasts && t.get(at + 4) < 1 << beasts;
            if (t.get(at + 3) > 0) {
                n.kept.put(g, t.get(at + 3) - 1);
            }
            for (int b = 0; b < beasts; b++) {
                if ((t.get(at + 4) >> b & 1) == 1) {
                    n.sent.add(List.of(b, g));
                }
            }
        }
        for (int b = 0; b < beasts; b++) {
            int[] taste = {t.get(at), t.get(at + 1), t.get(at + 2)};
            n.tastes.add(taste);
            good &= taste[0] <= 9 && taste[1] <= 9 && taste[2] <= 9;
            at += 3;
            for (int g = 0; g < guests; g++, at += 2) {
                good &= t.get(at) <= 99 && t.get(at + 1) <= t.get(at);
                n.saw.put(List.of(b, g), t.get(at));
                n.today.put(List.of(b, g), t.get(at + 1));
            }
        }
        return good ? n : null;
    }

    int status(int what) {
        return what < 0 || what > 5 ? NONE : refused[what];
    }
}

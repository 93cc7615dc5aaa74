import java.util.ArrayList;
import java.util.List;
import java.util.Random;

/** Random runs of calls on BeastsChoose and on ZooModel: each pair of answers must be one. */
public final class RandomRunsTest {
    private static int wrong = 0;

    private final Random random;
    private final long run;
    private final BeastsChoose real = new BeastsChoose();
    private final ZooModel model = new ZooModel();
    private final StringBuilder log = new StringBuilder();

    private RandomRunsTest(long run) {
        this.run = run;
        this.random = new Random(run);
    }

    public static void main(String[] args) {
        int runs = args.length > 0 ? Integer.parseInt(args[0]) : 400;
        long first = args.length > 1 ? Long.parseLong(args[1]) : 1;
        for (long run = first; run < first + runs && wrong == 0; run++) {
            new RandomRunsTest(run).go();
        }
        System.out.println(wrong == 0 ? runs + " random runs are as the model" : wrong + " answers are not as the model");
        if (wrong != 0) {
            System.exit(1);
        }
    }

    private int due(String call, int got, int want) {
        if (log.length() < 20000) {
            log.append(call).append(" -> ").append(got).append('\n');
        }
        if (got != want) {
            wrong++;
            if (wrong == 1) {
                System.out.println(log);
            }
            System.out.println("run " + run + ": " + call + " answered " + got + ", due is " + want);
        }
        return got;
    }

    private boolean due(String call, boolean got, boolean want) {
        return due(call, got ? 1 : 0, want ? 1 : 0) == 1;
    }

    private int below(int n) {
        return random.nextInt(n);
    }

    /** Mostly 0 .. n - 1, now and then beyond, or far beyond. */
    private int about(int n) {
        int[] far = {Integer.MIN_VALUE, Integer.MAX_VALUE, -2, -1, n, n + 1, 31, 32, 64};
        return below(12) == 0 ? far[below(far.length)] : below(Math.max(1, n));
    }

    private void put(int[] bytes) {
        for (int i = 0; i < bytes.length || i == 0; i += 20) {
            int[] n = new int[5];
            for (int k = 0; k < 20; k++) {
                n[k / 4] = n[k / 4] << 8 | (i + k < bytes.length ? bytes[i + k] & 255 : 32);
            }
            due("feed", real.feed(n[0], n[1], n[2], n[3], n[4]), model.feed(n));
        }
        due("end(" + bytes.length + ")", real.end(bytes.length), model.end(bytes.length));
    }

    private void putText(String text) {
        int[] bytes = new int[text.length()];
        for (int i = 0; i < bytes.length; i++) {
            bytes[i] = text.charAt(i);
        }
        put(bytes);
        log.append("text: ").append(text).append('\n');
    }

    private void go() {
        int zoos = 1 + below(3);
        for (int z = 0; z < zoos && wrong == 0; z++) {
            for (int i = below(4); i > 0; i--) {
                readZoo(ZooTexts.broken(random));
            }
            readZoo(ZooTexts.whole(random));
            int calls = 20 + below(100);
            for (int i = 0; i < calls && wrong == 0; i++) {
                call();
            }
            everything();
        }
    }

    private void readZoo(String text) {
        if (text.length() > 1600) {
            return;
        }
        putText(text);
        due("zoo()", real.zoo(), model.zoo());
        due("fault(0)", real.fault(0), model.fault(0));
        due("fault(1)", real.fault(1), model.fault(1));
    }

    private void call() {
        int b = about(real.has(0));
        int c = about(real.has(0));
        int g = about(real.has(1));
        switch (below(24)) {
            case 0: case 1: case 2: {
                int n = below(5) == 0 ? about(201) : 1 + below(9);
                due("hours(" + n + ")", real.hours(n), model.hours(n));
                break;
            }
            case 3: case 4: {
                int n = below(5) == 0 ? about(201) : 1 + below(9);
                due("chance(" + n + ")", real.chance(n), model.chance(n));
                break;
            }
            case 5: {
                int l = about(10), s = about(10), t = about(10);
                due("change(" + g + "," + l + "," + s + "," + t + ")", real.change(g, l, s, t), model.change(g, l, s, t));
                break;
            }
            case 6: {
                int l = about(10), s = about(10), t = about(10);
                due("train(" + b + "," + l + "," + s + "," + t + ")", real.train(b, l, s, t), model.train(b, l, s, t));
                break;
            }
            case 7: due("swap(" + b + "," + c + ")", real.swap(b, c), model.swap(b, c)); break;
            case 8: due("undo()", real.undo(), model.undo()); break;
            case 9: {
                int s = below(4) == 0 ? about(3) : below(Integer.MAX_VALUE);
                due("seed(" + s + ")", real.seed(s), model.seed(s));
                break;
            }
            case 10: {
                int n = about(100);
                due("asks(" + b + "," + n + ")", real.asks(b, n), model.asks(b, n));
                break;
            }
            case 11: {
                int w = about(2);
                due("alone(" + w + ")", real.alone(w), model.alone(w));
                break;
            }
            case 12: {
                int x = below(3) == 0 ? -1 : b;
                due("bring(" + x + ")", real.bring(x), model.bring(x));
                break;
            }
            case 13: {
                int w = about(4);
                if (below(4) == 0) {
                    due("dress(" + g + "," + b + "," + w + ")", real.dress(g, b, w), model.dress(g, b, w));
                }
                break;
            }
            case 14: {
                put(randomPairs(real.has(1), real.has(1)));
                due("tell()", real.tell(), model.tell());
                break;
            }
            case 15: {
                for (int w = -1; w <= 7; w++) {
                    due("tastes(" + w + ")", real.tastes(w), model.tastes(w));
                }
                break;
            }
            case 16: {
                for (int w = -1; w <= 3; w++) {
                    due("send(" + w + ")", real.send(w), model.send(w));
                }
                break;
            }
            case 17: {
                int w = about(3);
                due("round(" + b + "," + w + ")", real.round(b, w), model.round(b, w));
                break;
            }
            case 18: {
                int set = about(1 << real.has(0)), u = 1 + about(6);
                due("walk(" + set + "," + u + ")", real.walk(set, u), model.walk(set, u));
                break;
            }
            case 19: case 20: {
                put(below(3) == 0 ? randomPairs(real.has(0), real.has(1)) : likelyRegister());
                due("torn()", real.torn(), model.torn());
                break;
            }
            case 21: {
                due("image()", real.image(), model.image());
                int k = about(160);
                due("octet(" + k + ")", real.octet(k), model.octet(k));
                break;
            }
            case 22: readImage(); break;
            default: look();
        }
    }

    private int[] randomPairs(int firsts, int seconds) {
        int rows = below(6) == 0 ? below(18) : 1 + below(3);
        int[] bytes = new int[2 * rows + (below(15) == 0 ? 1 : 0)];
        for (int i = 0; i < bytes.length; i++) {
            bytes[i] = below(25) == 0 ? below(256) : below(Math.max(1, i % 2 == 0 ? firsts : seconds));
        }
        return bytes;
    }

    /** Rows that came in hours ahead, some left out, now and then one too many. */
    private int[] likelyRegister() {
        List<Integer> rows = new ArrayList<>();
        ZooModel.Now ahead = model.now.copy();
        for (int i = 0; i < 60 && model.stands(i + 1); i++) {
            for (int[] row : model.play(ahead)) {
                if (below(4) == 0 && rows.size() < 32 && (row[2] != 0 || below(8) == 0)) {
                    rows.add(row[0]);
                    rows.add(row[1]);
                }
            }
            model.clock(ahead);
        }
        int size = rows.isEmpty() ? 0 : Math.min(rows.size(), 2 * (1 + below(rows.size() / 2)));
        return rows.subList(0, size).stream().mapToInt(x -> x).toArray();
    }

    private void readImage() {
        int n = due("image()", real.image(), model.image());
        int[] bytes = new int[n];
        for (int i = 0; i < n; i++) {
            bytes[i] = due("octet(" + i + ")", real.octet(i), model.octet(i));
        }
        int spoils = below(4);
        for (int i = 0; i < spoils && n > 1; i++) {
            int at = below(n);
            int[] values = {0, 1, 2, 3, 9, 10, 23, 24, 39, 40, 99, 100, 255};
            bytes[at] = below(3) == 0 ? below(256) : values[below(values.length)];
        }
        if (below(3) == 0 && n > 5) {
            int moment = 999 * 24 + 23 - below(120);
            bytes[0] = moment / 24 / 256;
            bytes[1] = moment / 24 % 256;
            bytes[2] = moment % 24;
        }
        if (below(3) == 0 && n > 5) {
            int fees = 9990 + below(12);
            bytes[3] = fees / 256;
            bytes[4] = fees % 256;
        }
        if (below(6) != 0) {
            int c = 151;
            for (int i = 0; i < n - 1; i++) {
                c = (5 * c + bytes[i]) % 251;
            }
            bytes[n - 1] = c;
        }
        put(below(12) == 0 ? java.util.Arrays.copyOf(bytes, Math.max(0, n - 1 + 2 * below(2))) : bytes);
        due("on()", real.on(), model.on());
    }

    private void look() {
        for (int i = 0; i < 12; i++) {
            int b = about(real.has(0));
            int g = about(real.has(1));
            int w = about(12);
            due("has(" + w + ")", real.has(w), model.has(w));
            due("beast(" + b + "," + w + ")", real.beast(b, w), model.beast(b, w));
            due("guest(" + g + "," + w + ")", real.guest(g, w), model.guest(g, w));
            due("between(" + b + "," + g + "," + w % 5 + ")", real.between(b, g, w % 5), model.between(b, g, w % 5));
            int k = about(60);
            due("kept(" + k + "," + w % 6 + ")", real.kept(k, w % 6), model.kept(k, w % 6));
            due("status(" + w % 7 + ")", real.status(w % 7), model.status(w % 7));
        }
    }

    private void everything() {
        for (int w = -1; w <= 13; w++) {
            due("has(" + w + ")", real.has(w), model.has(w));
            due("status(" + w + ")", real.status(w), model.status(w));
            due("fault(" + w + ")", real.fault(w), model.fault(w));
            due("alone(" + w + ")", real.alone(w), model.alone(w));
        }
        for (int b = -1; b <= real.has(0); b++) {
            due("bring(" + b + ")", real.bring(b), model.bring(b));
            for (int w = -1; w <= 8; w++) {
                due("beast(" + b + "," + w + ")", real.beast(b, w), model.beast(b, w));
                due("round(" + b + "," + w + ")", real.round(b, w), model.round(b, w));
                due("letter(0," + b + "," + w + ")", real.letter(0, b, w), model.letter(0, b, w));
            }
            for (int g = -1; g <= real.has(1); g++) {
                for (int w = -1; w <= 4; w++) {
                    due("between(" + b + "," + g + "," + w + ")", real.between(b, g, w), model.between(b, g, w));
                }
            }
            for (int n = 0; n < 30; n++) {
                due("asks(" + b + "," + n + ")", real.asks(b, n), model.asks(b, n));
            }
        }
        for (int g = -1; g <= real.has(1); g++) {
            for (int w = -1; w <= 8; w++) {
                due("guest(" + g + "," + w + ")", real.guest(g, w), model.guest(g, w));
                due("letter(1," + g + "," + w + ")", real.letter(1, g, w), model.letter(1, g, w));
            }
        }
        for (int k = -1; k <= 60; k++) {
            for (int w = -1; w <= 5; w++) {
                due("kept(" + k + "," + w + ")", real.kept(k, w), model.kept(k, w));
            }
        }
    }
}

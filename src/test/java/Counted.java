import java.util.Arrays;

/**
 * A BeastsChoose and some runs of calls on it that many tests make. A test that calls it more often than
 * the document promises an answer stops.
 */
final class Counted {
    private static final int MOST_CALLS = 512;
    private final BeastsChoose x = new BeastsChoose();
    private int calls;

    private BeastsChoose call() {
        calls++;
        if (calls > MOST_CALLS) {
            throw new IllegalStateException("an answer to more than " + MOST_CALLS + " calls is promised to nobody");
        }
        return x;
    }

    int feed(int a, int b, int c, int d, int e) {
        return call().feed(a, b, c, d, e);
    }

    boolean end(int n) {
        return call().end(n);
    }

    int zoo() {
        return call().zoo();
    }

    int fault(int what) {
        return call().fault(what);
    }

    int has(int what) {
        return call().has(what);
    }

    int letter(int kind, int which, int k) {
        return call().letter(kind, which, k);
    }

    int beast(int beast, int what) {
        return call().beast(beast, what);
    }

    int guest(int guest, int what) {
        return call().guest(guest, what);
    }

    int between(int beast, int guest, int what) {
        return call().between(beast, guest, what);
    }

    int asks(int beast, int n) {
        return call().asks(beast, n);
    }

    int alone(int what) {
        return call().alone(what);
    }

    int bring(int beast) {
        return call().bring(beast);
    }

    int dress(int guest, int beast, int what) {
        return call().dress(guest, beast, what);
    }

    int tell() {
        return call().tell();
    }

    int tastes(int what) {
        return call().tastes(what);
    }

    int send(int what) {
        return call().send(what);
    }

    int round(int beast, int what) {
        return call().round(beast, what);
    }

    int walk(int beasts, int ushers) {
        return call().walk(beasts, ushers);
    }

    int torn() {
        return call().torn();
    }

    int hours(int n) {
        return call().hours(n);
    }

    int chance(int n) {
        return call().chance(n);
    }

    boolean change(int guest, int looks, int smell, int talk) {
        return call().change(guest, looks, smell, talk);
    }

    boolean train(int beast, int looks, int smell, int talk) {
        return call().train(beast, looks, smell, talk);
    }

    boolean swap(int first, int second) {
        return call().swap(first, second);
    }

    boolean undo() {
        return call().undo();
    }

    boolean seed(int seed) {
        return call().seed(seed);
    }

    int kept(int k, int what) {
        return call().kept(k, what);
    }

    int image() {
        return call().image();
    }

    int octet(int k) {
        return call().octet(k);
    }

    boolean on() {
        return call().on();
    }

    int status(int what) {
        return call().status(what);
    }

    // ---- runs of calls

    /** Lays bytes on the tape, which is empty so far. */
    Counted put(int... bytes) {
        int length = 0;
        for (int i = 0; i < bytes.length || i == 0; i += 20) {
            int[] n = new int[5];
            for (int k = 0; k < 20; k++) {
                n[k / 4] = n[k / 4] << 8 | (i + k < bytes.length ? bytes[i + k] & 255 : 0);
            }
            length = feed(n[0], n[1], n[2], n[3], n[4]);
        }
        if (length < bytes.length || length >= bytes.length + 20 + (bytes.length == 0 ? 1 : 0) || !end(bytes.length)) {
            throw new IllegalStateException("the tape was not empty, or not long enough");
        }
        return this;
    }

    int read(String text) {
        return put(text.chars().toArray()).zoo();
    }

    int tell(int... guests) {
        return put(guests).tell();
    }

    int torn(int... rows) {
        return put(rows).torn();
    }

    /** An image of how things are now. */
    int[] picture() {
        int[] bytes = new int[image()];
        for (int i = 0; i < bytes.length; i++) {
            bytes[i] = octet(i);
        }
        return bytes;
    }

    /** The last byte of an image as the document has it. */
    static int[] checked(int... bytes) {
        int c = 151;
        for (int i = 0; i < bytes.length - 1; i++) {
            c = (5 * c + bytes[i]) % 251;
        }
        int[] whole = bytes.clone();
        whole[whole.length - 1] = c;
        return whole;
    }

    /** Things as they are now, but some bytes of their image: place and value, place and value. */
    boolean become(int... changes) {
        int[] bytes = picture();
        for (int i = 0; i < changes.length; i += 2) {
            bytes[changes[i]] = changes[i + 1];
        }
        return put(checked(bytes)).on();
    }

    boolean toMoment(int day, int hour) {
        return become(0, day / 256, 1, day % 256, 2, hour);
    }

    /** All that can be looked at, but the counts of refusals, the latest image and what is yet to come. */
    String all() {
        StringBuilder s = new StringBuilder();
        for (int w = 0; w <= 11; w++) {
            s.append(has(w)).append(' ');
        }
        int beasts = has(0);
        int guests = has(1);
        for (int b = 0; b < beasts; b++) {
            for (int w = 0; w <= 7; w++) {
                s.append(beast(b, w)).append(' ');
            }
            for (int g = 0; g < guests; g++) {
                for (int w = 0; w <= 3; w++) {
                    s.append(between(b, g, w)).append(' ');
                }
            }
        }
        for (int g = 0; g < guests; g++) {
            for (int w = 0; w <= 7; w++) {
                s.append(guest(g, w)).append(' ');
            }
        }
        int rows = has(8);
        for (int k = 0; k < rows; k++) {
            for (int w = 0; w <= 4; w++) {
                s.append(kept(k, w)).append(' ');
            }
        }
        return s.append(tastes(0)).toString();
    }

    int[] refusals() {
        int[] counts = new int[6];
        Arrays.setAll(counts, this::status);
        return counts;
    }
}

import java.lang.reflect.InvocationTargetException;
import java.lang.reflect.Method;
import java.lang.reflect.Modifier;
import java.nio.file.Files;
import java.nio.file.Path;
import java.util.Arrays;
import java.util.Comparator;
import java.util.HashSet;
import java.util.Map;
import java.util.Set;
import java.util.TreeMap;

/**
 * Runs a test for each sentence of the document's Terms and promises that names a boundary case, and holds the
 * document against them: words of it that no test says are told, and so are words that it does not have (any more).
 */
public final class BoundsTest extends Answers {
    private static final Class<?>[] TESTS = {TextBounds.class, SumBounds.class, HourBounds.class, SearchBounds.class, CallBounds.class,
        SearchCallBounds.class, ActCallBounds.class};

    /** Words of the Terms that name no boundary case. */
    private static final String[] PLAIN = {
        "Hours go by, with rain by a seed; who is asked comes, or refuses and pays, is tired of, sent back, kept on approval; asked are: "
            + "whom a beast asks for in hours to come, the first beast that asks for nobody, the bringing of an hour that is liked most, "
            + "how to dress so that a told beast asks for one, tastes by whom a beast asked for, the visitor to send by whom its tastes "
            + "are told best, swaps round rings of beasts, how long ushers walk, who was where by a torn register; who was asked kept; "
            + "acts undone; images.",
    };

    /** By promise, the Terms being 0: what the document says, and which of it has been said by a test. */
    private static final Map<Integer, String> TEXT = new TreeMap<>();
    private static final Map<Integer, boolean[]> SAID = new TreeMap<>();

    public static void main(String[] args) throws Exception {
        readDocument(Files.readString(Path.of("../shared/DOC.md")));
        Set<String> sentences = new HashSet<>();
        int tests = 0;
        for (Class<?> c : TESTS) {
            Method[] methods = c.getDeclaredMethods();
            Arrays.sort(methods, Comparator.comparing(Method::getName));
            for (Method m : methods) {
                Says says = m.getAnnotation(Says.class);
                if (says != null) {
                    about = (says.promise() == 0 ? "Terms" : "promise " + says.promise()) + ", \"" + says.value() + "\"";
                    say(says.promise(), says.value());
                    run(m);
                    tests++;
                    if (!sentences.add(says.promise() + says.value())) {
                        failed("two tests say so");
                    }
                }
            }
        }
        about = "the document";
        for (String plain : PLAIN) {
            say(0, plain);
        }
        tellWhatNoTestSays();
        finish(tests + " sentences hold, by " + asked() + " answers");
    }

    private static void run(Method m) throws IllegalAccessException {
        int before = asked();
        try {
            m.invoke(null);
        } catch (InvocationTargetException e) {
            failed(m.getName() + " stopped: " + e.getCause());
        }
        if (asked() == before) {
            failed(m.getName() + " asks for nothing");
        }
    }

    /** FaceTest holds the class to what stands behind the Terms, the constants and the comments of the face. */
    private static void readDocument(String document) {
        String[] parts = document.split("(?m)^## ");
        for (String part : parts) {
            String title = part.substring(0, part.indexOf('\n')).trim();
            String body = part.substring(part.indexOf('\n')).replaceAll("```(text)?", " ");
            if (title.equals("Terms")) {
                put(0, body.substring(0, body.indexOf("The constants:")).replaceAll("(?m)^I+\\. ", " "));
            } else if (title.startsWith("Promise ")) {
                int number = Integer.parseInt(title.substring(8, title.indexOf(':')));
                put(number, body.replaceFirst("`[^`]*`:", " "));
            }
        }
    }

    private static void put(int promise, String body) {
        String text = body.replaceAll("\\s+", " ").trim();
        TEXT.put(promise, text);
        SAID.put(promise, new boolean[text.length()]);
    }

    private static void say(int promise, String words) {
        String text = TEXT.getOrDefault(promise, "");
        int at = text.indexOf(words);
        if (at < 0 || at != text.lastIndexOf(words)) {
            failed("the document says so not just once: " + words);
        } else {
            Arrays.fill(SAID.get(promise), at, at + words.length(), true);
        }
    }

    private static void tellWhatNoTestSays() {
        for (int promise : TEXT.keySet()) {
            StringBuilder silent = new StringBuilder();
            String text = TEXT.get(promise);
            for (int i = 0; i < text.length(); i++) {
                char c = text.charAt(i);
                silent.append(SAID.get(promise)[i] ? '|' : c);
            }
            String left = silent.toString().replaceAll("\\|[^A-Za-z0-9]*\\|", "|").replaceAll("\\|+", " | ");
            if (left.matches("(?s).*[A-Za-z0-9].*")) {
                failed((promise == 0 ? "Terms" : "promise " + promise) + ": no test says " + left);
            }
        }
    }
}

import java.lang.reflect.Constructor;
import java.lang.reflect.Field;
import java.lang.reflect.Method;
import java.lang.reflect.Modifier;
import java.nio.file.Files;
import java.nio.file.Path;
import java.util.ArrayList;
import java.util.Arrays;
import java.util.List;
import java.util.TreeSet;
import java.util.regex.Matcher;
import java.util.regex.Pattern;

/** The class has the document's face and no more. */
public final class FaceTest {
    private static int wrong = 0;

    private static final String FACE = "feed(int,int,int,int,int)int end(int)boolean zoo()int fault(int)int has(int)int "
        + "letter(int,int,int)int beast(int,int)int guest(int,int)int between(int,int,int)int asks(int,int)int alone(int)int "
        + "bring(int)int dress(int,int,int)int tell()int tastes(int)int send(int)int round(int,int)int walk(int,int)int torn()int "
        + "hours(int)int chance(int)int change(int,int,int,int)boolean train(int,int,int,int)boolean swap(int,int)boolean "
        + "undo()boolean seed(int)boolean kept(int,int)int image()int octet(int)int on()boolean status(int)int";

    public static void main(String[] args) throws Exception {
        face();
        parts(Files.readString(Path.of("src/main/java/BeastsChoose.java")));
        System.out.println(wrong == 0 ? "the face is the document's" : wrong + " things are wrong with the face");
        if (wrong != 0) {
            System.exit(1);
        }
    }

    private static void must(boolean holds, String what) {
        if (!holds) {
            wrong++;
            System.out.println(what);
        }
    }

    private static void face() throws Exception {
        Class<?> c = BeastsChoose.class;
        must(Modifier.isPublic(c.getModifiers()) && Modifier.isFinal(c.getModifiers()), "the class is not public and final");
        TreeSet<String> open = new TreeSet<>();
        TreeSet<String> names = new TreeSet<>();
        for (Method m : c.getDeclaredMethods()) {
            if (!Modifier.isPrivate(m.getModifiers())) {
                List<String> types = new ArrayList<>();
                for (Class<?> p : m.getParameterTypes()) {
                    types.add(p.getName());
                }
                open.add(m.getName() + "(" + String.join(",", types) + ")" + m.getReturnType().getName());
                names.add(m.getName());
                must(Modifier.isPublic(m.getModifiers()) && !Modifier.isStatic(m.getModifiers()), m + " is not as the face has it");
            }
        }
        must(open.equals(new TreeSet<>(Arrays.asList(FACE.split(" ")))), "the open methods are " + open);
        for (Method m : c.getDeclaredMethods()) {
            must(!Modifier.isPrivate(m.getModifiers()) || !names.contains(m.getName()), m + " bears the name of a public one");
        }
        for (Class<?> inside : c.getDeclaredClasses()) {
            for (Method m : inside.getDeclaredMethods()) {
                must(!names.contains(m.getName()), m + " bears the name of a public one");
            }
        }
        Constructor<?>[] constructors = c.getDeclaredConstructors();
        must(constructors.length == 1 && Modifier.isPublic(constructors[0].getModifiers())
            && constructors[0].getParameterCount() == 0, "the constructors are not one public one");
        for (Field f : c.getDeclaredFields()) {
            must(f.getName().equals("NONE") || Modifier.isPrivate(f.getModifiers()), f + " is open");
        }
        must(c.getField("NONE").getInt(null) == -1, "NONE is not -1");
    }

    /** Ahead of which calls the interface says what. */
    private static void parts(String text) {
        String[][] parts = {{"ahead", "asks"}, {"tastes, rings, walks, registers", "tell"}, {"acts", "hours"},
            {"images, refusals", "image"}};
        for (String[] part : parts) {
            Matcher m = Pattern.compile("// ---- " + part[0] + "\\s+public \\w+ " + part[1] + "\\(").matcher(text);
            must(m.find(), "the interface does not say \"---- " + part[0] + "\" ahead of " + part[1]);
        }
        Matcher order = Pattern.compile("(?m)^    public (?:int|boolean) (\\w+)\\(").matcher(text);
        StringBuilder found = new StringBuilder();
        while (order.find()) {
            found.append(order.group(1)).append(' ');
        }
        must(found.toString().trim().equals(FACE.replaceAll("\\([^)]*\\)\\w+", "")), "the calls are not in the face's order: " + found);
    }
}

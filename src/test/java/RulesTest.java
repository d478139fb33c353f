import java.lang.management.ManagementFactory;
import java.lang.reflect.Constructor;
import java.lang.reflect.Field;
import java.lang.reflect.Method;
import java.lang.reflect.Modifier;
import java.nio.file.Files;
import java.nio.file.Path;
import java.util.Set;
import java.util.TreeSet;
import java.util.regex.Matcher;
import java.util.regex.Pattern;

/**
 * What of ../shared/LANGUAGE.md can be looked at from outside: the face, the classes inside, words that the
 * language leaves out, and that no call makes an object. The test runs in the root of the checkout, or takes the source's path.
 */
public final class RulesTest {
    private static final String FACE = """
        int cut(int,int)
        int spoil(int)
        int grind(int,int)
        int addShield(int)
        int takeOff(int,int)
        int append(int)
        int clearText()
        int order(int,int,int,int,int)
        int hurry(int)
        int cancel(int)
        int work(int)
        int slip()
        int undo()
        int count(int)
        int plate(int,int)
        int shield(int,int)
        int plateFor(int,int)
        int orderOf(int,int)
        int letter(int,int)
        int lengthOf(int)
        int plateFound(int,int,int)
        int doneIn(int)
        int moved(int)
        int largestSize(int)
        constant INVALID_ARGUMENT
        constant ILLEGAL_STATE
        constant CAPACITY_EXCEEDED
        constant NONE
        constructor 0
        """;
    private static final String SOURCE = "src/main/java/TrophyPlates.java";
    private static final String LEFT_OUT =
        "throw|throws|try|catch|synchronized|assert|import|package|volatile|native|protected|->|::|System|double|float";

    private static final int MOST_CLASSES = 12;
    private static final int MOST_FIELDS = 20;
    private static final int MOST_PARAMETERS = 7;

    private static int wrong = 0;

    public static void main(String[] args) throws Exception {
        checkFace();
        checkClassesInside();
        checkWords(Files.readString(Path.of(args.length == 0 ? SOURCE : args[0])));
        checkRoom();
        System.out.println(wrong == 0 ? "the rules are kept" : wrong + " rules are broken");
        if (wrong != 0) {
            System.exit(1);
        }
    }

    private static void fail(String what) {
        wrong++;
        System.out.println(what);
    }

    private static void checkFace() {
        Set<String> wanted = new TreeSet<>(FACE.lines().map(String::strip).toList());
        Set<String> found = new TreeSet<>();
        Set<String> hidden = new TreeSet<>();
        for (Method method : TrophyPlates.class.getDeclaredMethods()) {
            StringBuilder told = new StringBuilder(method.getReturnType() + " " + method.getName() + "(");
            for (Class<?> type : method.getParameterTypes()) {
                told.append(told.charAt(told.length() - 1) == '(' ? "" : ",").append(type);
            }
            (Modifier.isPrivate(method.getModifiers()) ? hidden : found).add(
                Modifier.isPrivate(method.getModifiers()) ? method.getName() : told + ")");
        }
        for (Field field : TrophyPlates.class.getDeclaredFields()) {
            if (!Modifier.isPrivate(field.getModifiers())) {
                found.add("constant " + field.getName());
            }
            if (Modifier.isStatic(field.getModifiers()) && !Modifier.isFinal(field.getModifiers())) {
                fail("a static field that is not final: " + field.getName());
            }
        }
        for (Constructor<?> constructor : TrophyPlates.class.getDeclaredConstructors()) {
            found.add("constructor " + constructor.getParameterCount());
        }
        if (!found.equals(wanted)) {
            fail("the face is " + found);
        }
        for (String name : hidden) {
            if (wanted.stream().anyMatch(line -> line.contains(" " + name + "("))) {
                fail("a private method bears a public one's name: " + name);
            }
        }
        if (!Modifier.isFinal(TrophyPlates.class.getModifiers())) {
            fail("the class is not final");
        }
    }

    private static void checkClassesInside() {
        Class<?>[] inside = TrophyPlates.class.getDeclaredClasses();
        if (inside.length >= MOST_CLASSES) {
            fail("too many classes: " + (inside.length + 1));
        }
        checkClass(TrophyPlates.class);
        for (Class<?> each : inside) {
            int modifiers = each.getModifiers();
            if (!Modifier.isStatic(modifiers) || Modifier.isPublic(modifiers) || Modifier.isProtected(modifiers)) {
                fail("a class inside that others see, or that is not static: " + each.getName());
            }
            if (each.getDeclaredClasses().length > 0) {
                fail("a class inside a class inside: " + each.getName());
            }
            checkClass(each);
        }
    }

    private static void checkClass(Class<?> checked) {
        int fields = 0;
        for (Field field : checked.getDeclaredFields()) {
            fields += Modifier.isStatic(field.getModifiers()) ? 0 : 1;
        }
        if (fields > MOST_FIELDS) {
            fail("too many fields: " + fields + " in " + checked.getName());
        }
        for (Method method : checked.getDeclaredMethods()) {
            if (method.isSynthetic() || method.getParameterCount() > MOST_PARAMETERS) {
                fail("a method that the rules leave out: " + method);
            }
        }
    }

    private static void checkWords(String source) {
        String code = source.replaceAll("(?s)/\\*.*?\\*/", "").replaceAll("//[^\n]*", "");
        Matcher matcher = Pattern.compile("(?<![A-Za-z_])(" + LEFT_OUT + ")(?![A-Za-z_])").matcher(code);
        while (matcher.find()) {
            fail("a word that is left out: " + matcher.group());
        }
    }

    /** The first shop is for the machine, which loads and compiles classes on it. */
    private static void checkRoom() {
        com.sun.management.ThreadMXBean threads = (com.sun.management.ThreadMXBean) ManagementFactory.getThreadMXBean();
        TrophyPlates[] shops = new TrophyPlates[60];
        for (int i = 0; i < shops.length; i++) {
            shops[i] = new TrophyPlates();
        }
        play(shops[0]);
        long before = threads.getCurrentThreadAllocatedBytes();
        int calls = 0;
        for (int i = 1; i < shops.length; i++) {
            calls += play(shops[i]);
        }
        long perCall = (threads.getCurrentThreadAllocatedBytes() - before) / calls;
        if (perCall > 0) {
            fail("a call makes " + perCall + " bytes on average");
        }
    }

    private static int play(TrophyPlates x) {
        for (int plate = 0; plate < 10; plate++) {
            x.cut(20, 30);
        }
        x.addShield(3);
        for (int turn = 1; turn <= 40; turn++) {
            x.append('a');
            x.plateFound(1, 2, 0);
            x.order(0, turn, 1, 2, 0);
            x.doneIn(0);
            x.moved(x.count(6) - 1);
            x.hurry(0);
            x.work(2);
            x.slip();
            x.undo();
            x.takeOff(0, turn - 1);
            x.cancel(5);
        }
        return 11 + 40 * 12;
    }
}

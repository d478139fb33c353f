import java.util.LinkedHashMap;
import java.util.Map;
import java.util.function.Supplier;
import java.util.function.ToIntFunction;

/**
 * A sentence of the document that names a boundary case, with the test that it has of its own. What a test
 * finds wrong is told with the promise's number and the sentence.
 */
final class Sentence {
    static final int INVALID = -1;
    static final int ILLEGAL = -2;
    static final int FULL = -3;
    static final int NONE = -9;

    private static final int MOST_STATES = 5;
    private static final long PATIENCE = 120_000;

    private static String promise = "";
    private static String words = "";
    private static int sentences = 0;
    private static int broken = 0;
    private static int checks = 0;
    private static boolean holds = true;
    private static boolean named = false;

    private Sentence() {
    }

    /** A call with one of its arguments left open. */
    interface Call {
        int on(TrophyPlates x, int argument);
    }

    static void promise(int number, String name) {
        promise = "promise " + number + ", " + name;
    }

    /** The test of one sentence; one that looks at nothing is wrong, too. */
    static void sentence(String sentence, Runnable test) {
        words = sentence;
        sentences++;
        if (named) {
            System.out.println(promise + ": \"" + words + "\"");
        }
        checks = 0;
        holds = true;
        try {
            test.run();
        } catch (RuntimeException | StackOverflowError thrown) {
            tell("threw " + thrown);
        }
        if (checks == 0) {
            tell("nothing was looked at");
        }
        if (!holds) {
            broken++;
        }
    }

    /**
     * With an argument each sentence is named before it is tested. A program that does not come to an end is
     * wrong as well, so the wait for it has an end.
     */
    static void begin(String[] args) {
        named = args.length > 0;
        Thread watch = new Thread(() -> {
            try {
                Thread.sleep(PATIENCE);
            } catch (InterruptedException ended) {
                return;
            }
            System.out.println(promise + ": \"" + words + "\": the test does not end");
            Runtime.getRuntime().halt(1);
        });
        watch.setDaemon(true);
        watch.start();
    }

    static void end() {
        System.out.println(broken == 0 ? "all " + sentences + " sentences hold"
            : broken + " of " + sentences + " sentences are broken");
        if (broken != 0 || sentences == 0) {
            System.exit(1);
        }
    }

    private static void tell(String what) {
        holds = false;
        System.out.println(promise + ": \"" + words + "\": " + what);
    }

    static void due(String call, int got, int want) {
        checks++;
        if (got != want) {
            tell(call + " answered " + got + ", due is " + want);
        }
    }

    static void counts(TrophyPlates x, int first, int... wanted) {
        for (int i = 0; i < wanted.length; i++) {
            due("count(" + (first + i) + ")", x.count(first + i), wanted[i]);
        }
    }

    static void plateIs(TrophyPlates x, int plate, int... wanted) {
        for (int what = 0; what < wanted.length; what++) {
            due("plate(" + plate + ", " + what + ")", x.plate(plate, what), wanted[what]);
        }
    }

    static void shieldIs(TrophyPlates x, int shield, int... wanted) {
        for (int what = 0; what < wanted.length; what++) {
            due("shield(" + shield + ", " + what + ")", x.shield(shield, what), wanted[what]);
        }
    }

    static void foundIs(TrophyPlates x, int size, int depth, int... wanted) {
        for (int what = 0; what < wanted.length; what++) {
            due("plateFound(" + size + ", " + depth + ", " + what + ")", x.plateFound(size, depth, what), wanted[what]);
        }
    }

    /** The years of the orders, in the row. */
    static void rowIs(TrophyPlates x, int... years) {
        due("count(6)", x.count(6), years.length);
        for (int order = 0; order < years.length; order++) {
            due("orderOf(" + order + ", 1)", x.orderOf(order, 1), years[order]);
        }
    }

    static void nameIs(TrophyPlates x, int order, String name) {
        due("orderOf(" + order + ", 5)", x.orderOf(order, 5), name.length());
        for (int index = 0; index < name.length(); index++) {
            due("letter(" + order + ", " + index + ")", x.letter(order, index), name.charAt(index));
        }
        due("letter(" + order + ", " + name.length() + ")", x.letter(order, name.length()), NONE);
    }

    /** Every number outside is refused: those beside the first and the last one, and the ends of int. */
    static void outside(String call, int first, int last, Supplier<TrophyPlates> made, Call tried) {
        for (int argument : new int[] {first - 1, last + 1, Integer.MIN_VALUE, Integer.MAX_VALUE}) {
            refused(call + " with " + argument, made, x -> tried.on(x, argument), INVALID);
        }
    }

    static void refused(String call, Supplier<TrophyPlates> made, ToIntFunction<TrophyPlates> tried, int code) {
        changesNothing(call, made, tried, code);
    }

    /**
     * Makes the same shop twice and the call in one of them; then both must answer alike: now, after each undo(),
     * in the letters of the text, and as the work goes on. Each comparison takes new shops, so that no object
     * comes to its 512th call.
     */
    static void changesNothing(String call, Supplier<TrophyPlates> made, ToIntFunction<TrophyPlates> tried,
            int answer) {
        due(call, tried.applyAsInt(made.get()), answer);
        for (int steps = 0; steps <= MOST_STATES; steps++) {
            Map<String, Integer> touched = viewAfterUndo(made, tried, steps);
            same(call + ", then " + steps + " times undo(): ", touched, viewAfterUndo(made, null, steps));
        }
        same(call + ", then an order: ", viewOfText(made, tried), viewOfText(made, null));
        same(call + ", then slip() and work(600): ", viewOfWork(made, tried), viewOfWork(made, null));
    }

    private static TrophyPlates touched(Supplier<TrophyPlates> made, ToIntFunction<TrophyPlates> tried) {
        TrophyPlates x = made.get();
        if (tried != null) {
            tried.applyAsInt(x);
        }
        return x;
    }

    private static Map<String, Integer> viewAfterUndo(Supplier<TrophyPlates> made, ToIntFunction<TrophyPlates> tried,
            int steps) {
        TrophyPlates x = touched(made, tried);
        int last = 0;
        for (int step = 0; step < steps; step++) {
            last = x.undo();
        }
        Map<String, Integer> view = view(x);
        view.put("undo()", last);
        return view;
    }

    private static Map<String, Integer> viewOfText(Supplier<TrophyPlates> made, ToIntFunction<TrophyPlates> tried) {
        TrophyPlates x = touched(made, tried);
        Map<String, Integer> view = new LinkedHashMap<>();
        if (x.count(6) == 10) {
            x.cancel(9);
        }
        if (x.count(5) == 0) {
            x.addShield(2);
        }
        int order = x.order(0, 888, 1, 1, 0);
        view.put("order(0, 888, 1, 1, 0)", order);
        for (int index = 0; order >= 0 && index < 12; index++) {
            view.put("letter(" + order + ", " + index + ")", x.letter(order, index));
        }
        return view;
    }

    private static Map<String, Integer> viewOfWork(Supplier<TrophyPlates> made, ToIntFunction<TrophyPlates> tried) {
        TrophyPlates x = touched(made, tried);
        int slipped = x.slip();
        int done = x.work(600);
        Map<String, Integer> view = view(x);
        view.put("slip()", slipped);
        view.put("work(600)", done);
        return view;
    }

    private static Map<String, Integer> view(TrophyPlates x) {
        Map<String, Integer> view = new LinkedHashMap<>();
        for (int what = 0; what <= 15; what++) {
            view.put("count(" + what + ")", x.count(what));
        }
        view.put("lengthOf(1)", x.lengthOf(1));
        for (int plate = 0; plate < x.count(4); plate++) {
            for (int what = 0; what <= 6; what++) {
                view.put("plate(" + plate + ", " + what + ")", x.plate(plate, what));
            }
        }
        for (int shield = 0; shield < x.count(5); shield++) {
            view.put("shield(" + shield + ", 0)", x.shield(shield, 0));
        }
        int orders = x.count(6);
        for (int order = 0; order < orders; order++) {
            for (int what = 0; what <= 5; what++) {
                view.put("orderOf(" + order + ", " + what + ")", x.orderOf(order, what));
            }
            int letters = Math.min(x.orderOf(order, 5), 3);
            for (int index = 0; index < letters; index++) {
                view.put("letter(" + order + ", " + index + ")", x.letter(order, index));
            }
        }
        return view;
    }

    private static void same(String call, Map<String, Integer> got, Map<String, Integer> want) {
        checks++;
        for (String look : want.keySet()) {
            if (!want.get(look).equals(got.get(look))) {
                tell(call + look + " answered " + got.get(look) + ", due is " + want.get(look));
                return;
            }
        }
        if (got.size() != want.size()) {
            tell(call + "there is more to look at than before");
        }
    }
}

import java.util.ArrayList;
import java.util.List;
import java.util.Map;
import java.util.Random;
import java.util.Set;
import java.util.TreeMap;
import java.util.TreeSet;

/**
 * Seeded runs of 512 calls on TrophyPlates and on ReferenceShop side by side; every answer must be the same.
 * Each run ends with a look at all that can be looked at, and over all runs each kind of answer must have
 * been met, so that the comparison is not empty.
 */
public final class ReferenceRuns {
    private static final int RUNS = 4000;
    private static final int CALLS = 512;
    private static final String[] NAMES = {
        "cut", "spoil", "grind", "addShield", "takeOff", "append", "clearText", "order", "hurry", "cancel", "work",
        "slip", "undo", "count", "plate", "shield", "plateFor", "orderOf", "letter", "lengthOf", "plateFound",
        "doneIn", "moved", "largestSize"};
    private static final String[] MUST_BE_MET = {
        "cut ok", "spoil ok", "grind ok", "addShield ok", "takeOff ok", "append ok", "clearText ok", "order ok",
        "hurry ok", "cancel ok", "work ok", "slip 1", "slip 2", "slip 3", "undo ok", "count ok", "plate ok",
        "shield ok", "plateFor ok", "orderOf ok", "letter ok", "lengthOf ok", "plateFound ok", "doneIn ok",
        "moved ok", "moved below", "moved above", "largestSize ok"};
    private static final int OFTEN_ENOUGH = 20;

    /** What is called often: a shop of all sorts, one with many orders waiting, one with few
     * plates used again, one with a full shield whose plates come back. */
    private static final String[][] PROFILES = {
        {"cut", "append", "append", "append", "append", "append", "append", "order", "order", "order", "order",
            "hurry", "work", "work", "slip", "undo", "takeOff", "grind", "cancel", "count", "plate", "plateFor",
            "shield", "orderOf", "plateFound", "doneIn", "moved", "largestSize"},
        {"append", "append", "append", "order", "order", "order", "order", "order", "order", "append", "append",
            "hurry", "orderOf", "letter", "doneIn", "moved", "moved", "undo", "cut", "cut", "count"},
        {"append", "append", "append", "order", "order", "order", "work", "work", "work", "takeOff", "grind",
            "moved", "moved", "doneIn", "slip", "plateFound"},
        {"append", "append", "append", "append", "append", "order", "order", "order", "order", "work",
            "moved", "moved", "doneIn"}};

    private static final int[] OPENINGS = {30, 30, 12, 0};

    private final Random random;
    private final boolean poor;
    private final int profile;
    private final TrophyPlates shop = new TrophyPlates();
    private final ReferenceShop reference = new ReferenceShop();
    private final List<String> told = new ArrayList<>();
    private static final Map<String, Integer> met = new TreeMap<>();

    private ReferenceRuns(int seed) {
        random = new Random(seed);
        poor = seed / PROFILES.length % 2 == 0;
        profile = seed % PROFILES.length;
    }

    public static void main(String[] args) {
        int wrong = 0;
        for (int seed = 0; seed < RUNS && wrong < 3; seed++) {
            if (!new ReferenceRuns(seed).agrees(seed)) {
                wrong++;
            }
        }
        if (wrong == 0) {
            wrong += kindsNotMet();
        }
        if (args.length > 0) {
            System.out.println(met);
        }
        System.out.println(wrong == 0 ? "all runs agree with the reference" : wrong + " runs are wrong");
        if (wrong != 0) {
            System.exit(1);
        }
    }

    /** Each kind must have been met, each code below 0 by the calls that have it, and nothing else. */
    private static int kindsNotMet() {
        Set<String> kinds = new TreeSet<>(List.of(MUST_BE_MET));
        Codes.ofCalls().forEach((call, codes) -> codes.forEach(code -> kinds.add(call + " " + code)));
        int wrong = 0;
        for (String kind : kinds) {
            if (met.getOrDefault(kind, 0) < OFTEN_ENOUGH) {
                System.out.println("too few answers of the kind " + kind + ": " + met.get(kind));
                wrong++;
            }
        }
        for (String kind : met.keySet()) {
            if (!kinds.contains(kind)) {
                System.out.println("answers of a kind that is not due: " + kind);
                wrong++;
            }
        }
        return wrong;
    }

    private boolean agrees(int seed) {
        int plays = 100 + random.nextInt(300);
        for (int call = 0; profile == 3 && call < 6; call++) {
            int[] start = call < 5 ? new int[] {aWidth(), 30} : new int[] {2};
            if (!agreesOn(call < 5 ? 0 : 3, start, seed)) {
                return false;
            }
        }
        for (int call = 0; call < plays; call++) {
            boolean opening = call < OPENINGS[profile] && random.nextInt(3) == 0;
            int method = opening ? (random.nextInt(4) == 0 ? 3 : 0) : chosenMethod();
            if (!agreesOn(method, arguments(method), seed)) {
                return false;
            }
        }
        for (int[] look : looksAtAll()) {
            if (told.size() < CALLS && !agreesOn(look[0], new int[] {look[1], look[2]}, seed)) {
                return false;
            }
        }
        return true;
    }

    private boolean agreesOn(int method, int[] a, int seed) {
        int got = onShop(method, a);
        int want = onReference(method, a);
        told.add(NAMES[method] + java.util.Arrays.toString(a) + " = " + got);
        meet(method, want);
        if (got != want) {
            System.out.println("seed " + seed + ": due is " + want + " at the end of\n" + String.join("\n", told));
        }
        return got == want;
    }

    private List<int[]> looksAtAll() {
        List<int[]> looks = new ArrayList<>();
        for (int what = 0; what <= 15; what++) looks.add(new int[] {13, what, 0});
        for (int shield = 0; shield < reference.count(5); shield++)
            for (int what = 0; what <= 4; what++) looks.add(new int[] {15, shield, what});
        for (int order = 0; order < reference.count(6); order++) {
            looks.add(new int[] {21, order, 0});
            for (int what = 0; what <= 7; what++) looks.add(new int[] {17, order, what});
        }
        for (int plate = 0; plate < reference.count(4); plate++)
            for (int what = 1; what <= 6; what++) looks.add(new int[] {14, plate, what});
        for (int order = 0; order < reference.count(6); order++)
            for (int index = 0; index <= 12; index++) looks.add(new int[] {18, order, index});
        return looks;
    }

    private void meet(int method, int answer) {
        String kind = answer >= 0 ? "ok" : Integer.toString(answer);
        if (method == 11 && answer > 0) {
            kind = Integer.toString(answer);
        }
        if (method == 22 && answer >= 0) {
            kind = answer < 100000 ? "below" : answer > 100000 ? "above" : "ok";
        }
        met.merge(NAMES[method] + " " + kind, 1, Integer::sum);
    }

    private int chosenMethod() {
        if (random.nextInt(profile == 3 ? 40 : 4) == 0) {
            return random.nextInt(NAMES.length);
        }
        String[] often = PROFILES[profile];
        String name = often[random.nextInt(often.length)];
        return java.util.Arrays.asList(NAMES).indexOf(name);
    }

    private int in(int least, int most) {
        if (random.nextInt(60) == 0) {
            int[] odd = {least - 1, most + 1, Integer.MIN_VALUE, Integer.MAX_VALUE, -1, -9};
            return odd[random.nextInt(odd.length)];
        }
        return least + random.nextInt(Math.max(1, most - least + 1));
    }

    private int aPlate() { return in(0, Math.max(0, reference.count(4) - 1)); }
    private int aShield() { return in(0, Math.max(0, reference.count(5) - 1)); }
    private int anOrder() { return in(0, Math.max(0, reference.count(6) - 1)); }
    private int aYear() { return random.nextInt(8) == 0 ? in(1, 999) : in(1, 25); }
    private int aWidth() { return profile == 1 || random.nextInt(3) == 0 ? in(10, 200) : in(10, poor ? 30 : 80); }
    private int aThickness() { return profile >= 2 || random.nextInt(3) == 0 ? in(5, 30) : in(5, 15); }
    private int minutes() { return random.nextInt(3) == 0 ? in(1, 600) : in(1, 40); }
    private int aSize() { return random.nextInt(3) == 0 ? in(1, 4) : in(1, 2); }

    private int[] arguments(int method) {
        switch (NAMES[method]) {
            case "cut": return new int[] {aWidth(), aThickness()};
            case "spoil": return new int[] {aPlate()};
            case "grind": return new int[] {aPlate(), in(0, 1)};
            case "addShield": return new int[] {in(2, random.nextBoolean() ? 3 : 6)};
            case "takeOff": return new int[] {aShield(), aYear()};
            case "append": return new int[] {in(97, 122)};
            case "order": return new int[] {aShield(), aYear(), aSize(), in(1, 5), random.nextInt(4) == 0 ? 1 : in(0, 0)};
            case "hurry": case "cancel": case "doneIn": case "moved": return new int[] {anOrder()};
            case "work": return new int[] {minutes()};
            case "count": return new int[] {in(0, 15)};
            case "plate": return new int[] {aPlate(), in(0, 6)};
            case "shield": return new int[] {aShield(), in(0, 4)};
            case "plateFor": return new int[] {aShield(), aYear()};
            case "orderOf": return new int[] {anOrder(), in(0, 7)};
            case "letter": return new int[] {anOrder(), in(0, 8)};
            case "lengthOf": return new int[] {in(1, 4)};
            case "plateFound": return new int[] {aSize(), in(1, 5), in(0, 2)};
            case "largestSize": return new int[] {aPlate()};
            default: return new int[0];
        }
    }

    private int onShop(int method, int[] a) {
        switch (NAMES[method]) {
            case "cut": return shop.cut(a[0], a[1]);
            case "spoil": return shop.spoil(a[0]);
            case "grind": return shop.grind(a[0], a[1]);
            case "addShield": return shop.addShield(a[0]);
            case "takeOff": return shop.takeOff(a[0], a[1]);
            case "append": return shop.append(a[0]);
            case "clearText": return shop.clearText();
            case "order": return shop.order(a[0], a[1], a[2], a[3], a[4]);
            case "hurry": return shop.hurry(a[0]);
            case "cancel": return shop.cancel(a[0]);
            case "work": return shop.work(a[0]);
            case "slip": return shop.slip();
            case "undo": return shop.undo();
            case "count": return shop.count(a[0]);
            case "plate": return shop.plate(a[0], a[1]);
            case "shield": return shop.shield(a[0], a[1]);
            case "plateFor": return shop.plateFor(a[0], a[1]);
            case "orderOf": return shop.orderOf(a[0], a[1]);
            case "letter": return shop.letter(a[0], a[1]);
            case "lengthOf": return shop.lengthOf(a[0]);
            case "plateFound": return shop.plateFound(a[0], a[1], a[2]);
            case "doneIn": return shop.doneIn(a[0]);
            case "moved": return shop.moved(a[0]);
            default: return shop.largestSize(a[0]);
        }
    }

    private int onReference(int method, int[] a) {
        switch (NAMES[method]) {
            case "cut": return reference.cut(a[0], a[1]);
            case "spoil": return reference.spoil(a[0]);
            case "grind": return reference.grind(a[0], a[1]);
            case "addShield": return reference.addShield(a[0]);
            case "takeOff": return reference.takeOff(a[0], a[1]);
            case "append": return reference.append(a[0]);
            case "clearText": return reference.clearText();
            case "order": return reference.order(a[0], a[1], a[2], a[3], a[4]);
            case "hurry": return reference.hurry(a[0]);
            case "cancel": return reference.cancel(a[0]);
            case "work": return reference.work(a[0]);
            case "slip": return reference.slip();
            case "undo": return reference.undo();
            case "count": return reference.count(a[0]);
            case "plate": return reference.plate(a[0], a[1]);
            case "shield": return reference.shield(a[0], a[1]);
            case "plateFor": return reference.plateFor(a[0], a[1]);
            case "orderOf": return reference.orderOf(a[0], a[1]);
            case "letter": return reference.letter(a[0], a[1]);
            case "lengthOf": return reference.lengthOf(a[0]);
            case "plateFound": return reference.plateFound(a[0], a[1], a[2]);
            case "doneIn": return reference.doneIn(a[0]);
            case "moved": return reference.moved(a[0]);
            default: return reference.largestSize(a[0]);
        }
    }
}

/** For each promise of the document: ordinary inputs, the edges that it names, and wrong inputs. */
public final class PromisesTest {
    private static final int INVALID = -1;
    private static final int ILLEGAL = -2;
    private static final int FULL = -3;
    private static final int NONE = -9;

    private static int wrong = 0;
    private static String promise = "";

    public static void main(String[] args) {
        promise01NewObject();
        promise02Cut();
        promise03Spoil();
        promise04Grind();
        promise05AddShield();
        promise06TakeOff();
        promise07Append();
        promise08ClearText();
        promise09Order();
        promise10Hurry();
        promise11Cancel();
        promise12Work();
        promise12TheNextOrder();
        promise12ThePlateForAnOrder();
        promise12FullShields();
        promise13Slip();
        promise14Undo();
        promise15Count();
        promise16Plate();
        promise17Shield();
        promise18PlateFor();
        promise19OrderOf();
        promise20Letter();
        promise21LengthOf();
        promise22PlateFound();
        promise23DoneIn();
        promise24Moved();
        promise25LargestSize();
        System.out.println(wrong == 0 ? "all promises hold" : wrong + " answers are wrong");
        if (wrong != 0) {
            System.exit(1);
        }
    }

    private static void due(String call, int got, int want) {
        if (got != want) {
            wrong++;
            System.out.println(promise + ": " + call + " answered " + got + ", due is " + want);
        }
    }

    private static void write(TrophyPlates x, String text) {
        for (char letter : text.toCharArray()) {
            x.append(letter);
        }
    }

    private static int give(TrophyPlates x, String name, int shield, int year, int size, int depth, int rush) {
        write(x, name);
        return x.order(shield, year, size, depth, rush);
    }

    /** A shop with a shield of two places, and plates of the given widths, all 30 thick. */
    private static TrophyPlates shopWith(int... widths) {
        TrophyPlates x = new TrophyPlates();
        x.addShield(2);
        for (int width : widths) {
            x.cut(width, 30);
        }
        return x;
    }

    private static void counts(TrophyPlates x, int first, int... wanted) {
        for (int i = 0; i < wanted.length; i++) {
            due("count(" + (first + i) + ")", x.count(first + i), wanted[i]);
        }
    }

    private static void plateIs(TrophyPlates x, int plate, int... wanted) {
        for (int what = 0; what < wanted.length; what++) {
            due("plate(" + plate + ", " + what + ")", x.plate(plate, what), wanted[what]);
        }
    }

    private static void promise01NewObject() {
        promise = "1 a new object";
        TrophyPlates x = new TrophyPlates();
        counts(x, 0, 0, 0, 0, 0, 0, 0, 0, 0, NONE, NONE, NONE, 0, 0, 0, 0, 0);
        due("lengthOf", x.lengthOf(1), 0);
        due("undo", x.undo(), ILLEGAL);
        due("plate", x.plate(0, 0), INVALID);
        due("shield", x.shield(0, 0), INVALID);
        due("orderOf", x.orderOf(0, 0), INVALID);
        due("constants", TrophyPlates.INVALID_ARGUMENT * 1000 + TrophyPlates.ILLEGAL_STATE * 100
            + TrophyPlates.CAPACITY_EXCEEDED * 10 + TrophyPlates.NONE, -1239);
        new TrophyPlates().cut(10, 5);
        due("another object's plate", x.count(4), 0);
    }

    private static void promise02Cut() {
        promise = "2 cut";
        TrophyPlates x = new TrophyPlates();
        due("width 9", x.cut(9, 5), INVALID);
        due("width 201", x.cut(201, 5), INVALID);
        due("thickness 4", x.cut(10, 4), INVALID);
        due("thickness 31", x.cut(10, 31), INVALID);
        due("least int", x.cut(Integer.MIN_VALUE, 5), INVALID);
        due("most int", x.cut(10, Integer.MAX_VALUE), INVALID);
        due("no state recorded", x.count(14), 0);
        due("least", x.cut(10, 5), 0);
        due("most", x.cut(200, 30), 1);
        plateIs(x, 0, 10, 5, 0, 0, 0, NONE, NONE);
        plateIs(x, 1, 200, 30, 0, 0, 0, NONE, NONE);
        for (int plate = 2; plate < 20; plate++) {
            due("cut", x.cut(50, 10), plate);
        }
        due("a 21st", x.cut(50, 10), FULL);
        due("a 21st out of range", x.cut(50, 31), INVALID);
        x.spoil(3);
        due("a 21st, one spoiled", x.cut(50, 10), FULL);
        x.undo();
        x.undo();
        due("the 20th again", x.cut(60, 11), 19);
        due("its width", x.plate(19, 0), 60);

        x = shopWith();
        x.cut(10, 5);
        give(x, "a", 0, 1, 1, 1, 0);
        x.work(2);
        x.takeOff(0, 1);
        give(x, "a", 0, 1, 1, 1, 0);
        x.undo();
        x.undo();
        x.undo();
        x.undo();
        x.undo();
        due("undone", x.count(4), 0);
        due("cut again", x.cut(11, 6), 0);
        plateIs(x, 0, 11, 6, 0, 0, 0, NONE, NONE);
    }

    /** A call that records its state can be undone, and the state is the one before it. */
    private static void isRecorded(TrophyPlates x, int undone, int states) {
        due("states", x.count(14), states);
        due("undo", x.undo(), states - 1);
        due("it is undone", x.count(undone), 0);
    }

    private static void promise03Spoil() {
        promise = "3 spoil";
        TrophyPlates x = shopWith(20, 30, 40);
        due("-1", x.spoil(-1), INVALID);
        due("3", x.spoil(3), INVALID);
        due("1", x.spoil(1), 1);
        due("1 again", x.spoil(1), ILLEGAL);
        due("state", x.plate(1, 2), 3);
        give(x, "a", 0, 1, 1, 1, 0);
        x.work(1);
        due("the one at work", x.spoil(0), ILLEGAL);
        x.work(1);
        due("the one on a shield", x.spoil(0), ILLEGAL);
        due("states recorded by work alone", x.count(14), 5);
        x.takeOff(0, 1);
        due("taken off", x.spoil(0), 2);
        due("the last one", x.spoil(2), 3);
        counts(x, 0, 0, 0, 0, 3, 3);
    }

    private static TrophyPlates engravedOnBothSides(int thickness, int front, int back) {
        TrophyPlates x = new TrophyPlates();
        x.addShield(2);
        x.cut(10, thickness);
        for (int depth : new int[] {front, back}) {
            give(x, "a", 0, 1, 1, depth, 0);
            x.work(600);
            x.takeOff(0, 1);
        }
        return x;
    }

    private static void promise04Grind() {
        promise = "4 grind";
        TrophyPlates x = engravedOnBothSides(12, 3, 4);
        plateIs(x, 0, 10, 12, 0, 3, 4);
        due("plate -1", x.grind(-1, 0), INVALID);
        due("plate 1", x.grind(1, 0), INVALID);
        due("side -1", x.grind(0, -1), INVALID);
        due("side 2", x.grind(0, 2), INVALID);
        due("front", x.grind(0, 0), 8);
        plateIs(x, 0, 10, 8, 0, 0, 4);
        due("blank front", x.grind(0, 0), ILLEGAL);
        due("ground", x.count(13), 1);
        due("back", x.grind(0, 1), 3);
        plateIs(x, 0, 10, 3, 0, 0, 0);
        due("ground", x.count(13), 2);
        due("undo", x.undo(), 4);
        due("ground", x.count(13), 1);

        x = engravedOnBothSides(9, 3, 4);
        due("9 - 3 - 1 - 4 is 1", x.grind(0, 0), ILLEGAL);
        due("9 - 4 - 1 - 3 is 1", x.grind(0, 1), ILLEGAL);
        due("not ground", x.count(13), 0);
        x = engravedOnBothSides(10, 3, 4);
        due("10 - 3 - 1 - 4 is 2", x.grind(0, 0), 6);

        x = shopWith(20);
        give(x, "ab", 0, 1, 1, 2, 0);
        due("blank", x.grind(0, 0), ILLEGAL);
        x.work(6);
        due("on a shield", x.grind(0, 0), ILLEGAL);
        x.takeOff(0, 1);
        give(x, "ab", 0, 1, 1, 2, 0);
        x.work(1);
        due("at work", x.grind(0, 0), ILLEGAL);
        x.cancel(0);
        due("back in the drawer", x.grind(0, 0), 27);
        due("then spoiled", x.spoil(0), 1);
        due("spoiled", x.grind(0, 0), ILLEGAL);
        due("spoiled, no such side", x.grind(0, 2), INVALID);
    }

    private static void promise05AddShield() {
        promise = "5 addShield";
        TrophyPlates x = new TrophyPlates();
        due("1", x.addShield(1), INVALID);
        due("7", x.addShield(7), INVALID);
        due("2", x.addShield(2), 0);
        due("6", x.addShield(6), 1);
        due("3", x.addShield(3), 2);
        due("a fourth", x.addShield(4), FULL);
        due("a fourth out of range", x.addShield(7), INVALID);
        due("places", x.shield(0, 0), 2);
        due("places", x.shield(1, 0), 6);
        due("places", x.shield(2, 0), 3);
        due("shields", x.count(5), 3);
        due("states", x.count(14), 3);
        due("undo", x.undo(), 2);
        due("undone", x.shield(2, 0), INVALID);
        due("again", x.addShield(5), 2);
        due("places", x.shield(2, 0), 5);
    }

    private static void promise06TakeOff() {
        promise = "6 takeOff";
        TrophyPlates x = shopWith(20, 20);
        give(x, "ab", 0, 999, 1, 2, 0);
        x.work(600);
        due("shield -1", x.takeOff(-1, 999), INVALID);
        due("shield 1", x.takeOff(1, 999), INVALID);
        due("year 0", x.takeOff(0, 0), INVALID);
        due("year 1000", x.takeOff(0, 1000), INVALID);
        due("another year", x.takeOff(0, 998), ILLEGAL);
        x.addShield(2);
        due("another shield", x.takeOff(1, 999), ILLEGAL);
        due("its year", x.takeOff(0, 999), 0);
        plateIs(x, 0, 20, 30, 0, 2, 0, NONE, NONE);
        due("again", x.takeOff(0, 999), ILLEGAL);
        x.undo();
        plateIs(x, 0, 20, 30, 2, 2, 0, 0, 999);
        give(x, "ab", 0, 1, 1, 2, 0);
        due("only ordered", x.takeOff(0, 1), ILLEGAL);

        x = shopWith(20);
        give(x, "ab", 0, 1, 1, 2, 0);
        x.work(600);
        due("states", x.count(14), 4);
        x.takeOff(0, 1);
        isRecorded(x, 0, 5);
    }

    private static void promise07Append() {
        promise = "7 append";
        TrophyPlates x = new TrophyPlates();
        due("96", x.append(96), INVALID);
        due("123", x.append(123), INVALID);
        due("A", x.append('A'), INVALID);
        due("a", x.append(97), 1);
        due("z", x.append(122), 2);
        for (int length = 3; length <= 12; length++) {
            due("append", x.append('k'), length);
        }
        due("a 13th", x.append('k'), FULL);
        due("a 13th that is no letter", x.append(96), INVALID);
        due("length", x.count(15), 12);
        due("no action", x.count(14), 0);
    }

    private static void promise08ClearText() {
        promise = "8 clearText";
        TrophyPlates x = new TrophyPlates();
        due("empty", x.clearText(), 0);
        write(x, "abc");
        due("three", x.clearText(), 3);
        due("empty", x.count(15), 0);
        due("length", x.lengthOf(1), 0);
        due("no action", x.count(14), 0);
        write(x, "abcdefghijkl");
        due("twelve", x.clearText(), 12);
        due("a letter more", x.append('m'), 1);
        due("its length", x.lengthOf(1), 5);
    }

    private static void promise09Order() {
        promise = "9 order";
        TrophyPlates x = shopWith(40, 40, 40);
        due("text empty", x.order(0, 1, 1, 1, 0), ILLEGAL);
        due("text empty, size 0", x.order(0, 1, 0, 1, 0), INVALID);
        write(x, "anna");
        due("shield 1", x.order(1, 1, 1, 1, 0), INVALID);
        due("shield -1", x.order(-1, 1, 1, 1, 0), INVALID);
        due("year 0", x.order(0, 0, 1, 1, 0), INVALID);
        due("year 1000", x.order(0, 1000, 1, 1, 0), INVALID);
        due("size 0", x.order(0, 1, 0, 1, 0), INVALID);
        due("size 5", x.order(0, 1, 5, 1, 0), INVALID);
        due("depth 0", x.order(0, 1, 1, 0, 0), INVALID);
        due("depth 6", x.order(0, 1, 1, 6, 0), INVALID);
        due("rush 2", x.order(0, 1, 1, 1, 2), INVALID);
        due("rush -1", x.order(0, 1, 1, 1, -1), INVALID);
        due("the text stays", x.count(15), 4);
        due("year 999, size 4, depth 5", x.order(0, 999, 4, 5, 0), 0);
        due("the text is empty", x.count(15), 0);
        due("an order for the year", give(x, "bo", 0, 999, 1, 1, 1), ILLEGAL);
        due("the text stays", x.count(15), 2);
        due("a rush, year 1", x.order(0, 1, 1, 1, 1), 0);
        due("a second rush", give(x, "cy", 0, 2, 1, 1, 1), 1);
        due("no rush", give(x, "di", 0, 3, 1, 1, 0), 3);
        x.work(4);
        due("a plate for the year", give(x, "bo", 0, 1, 1, 1, 1), ILLEGAL);
        x.addShield(2);
        due("another shield", x.order(1, 1, 1, 1, 0), 3);
        x.takeOff(0, 1);
        due("the plate is taken off", give(x, "bo", 0, 1, 1, 1, 0), 4);
        for (int order = 5; order < 10; order++) {
            due("order", give(x, "e", 0, 100 + order, 1, 1, 0), order);
        }
        due("an 11th with an empty text", x.order(0, 200, 1, 1, 0), ILLEGAL);
        due("an 11th", give(x, "f", 0, 200, 1, 1, 0), FULL);
        due("an 11th for a year ordered", x.order(0, 105, 1, 1, 0), ILLEGAL);
        due("an 11th out of range", x.order(0, 200, 1, 9, 0), INVALID);
        due("the text stays", x.count(15), 1);
        x.undo();
        due("undo leaves the text", x.count(15), 1);
        due("orders", x.count(6), 9);
    }

    private static void promise10Hurry() {
        promise = "10 hurry";
        TrophyPlates x = shopWith(20, 20);
        give(x, "a", 0, 1, 1, 1, 0);
        give(x, "b", 0, 2, 1, 1, 0);
        give(x, "c", 0, 3, 1, 1, 0);
        due("-1", x.hurry(-1), INVALID);
        due("3", x.hurry(3), INVALID);
        due("the last", x.hurry(2), 0);
        due("is a rush", x.orderOf(0, 4), 1);
        due("year", x.orderOf(0, 1), 3);
        due("again", x.hurry(0), ILLEGAL);
        due("behind the rush", x.hurry(2), 1);
        due("year", x.orderOf(1, 1), 2);
        due("year of the rest", x.orderOf(2, 1), 1);
        due("rushes", x.count(7), 2);
        due("a new rush is behind both", give(x, "d", 0, 4, 1, 1, 1), 2);
        due("year of the rest", x.orderOf(3, 1), 1);

        x = shopWith(20, 20);
        give(x, "ab", 0, 1, 1, 1, 0);
        give(x, "b", 0, 2, 1, 1, 0);
        x.work(1);
        due("hurry another", x.hurry(1), 0);
        due("the order at work", x.count(8), 1);
        due("goes on", x.count(9), 3);
        due("is hurried itself", x.hurry(1), 1);
        due("the order at work", x.count(8), 1);
        x.work(3);
        due("it is done first", x.plateFor(0, 1), 0);

        x = shopWith(20, 20);
        give(x, "ab", 0, 1, 1, 1, 0);
        x.work(1);
        give(x, "c", 0, 2, 1, 1, 0);
        give(x, "d", 0, 3, 1, 1, 0);
        due("one behind the one at work", x.hurry(2), 0);
        due("the order at work", x.count(8), 1);
        due("then the one at work", x.hurry(1), 1);
        due("the order at work", x.count(8), 1);
        due("year of the last", x.orderOf(2, 1), 2);

        x = shopWith(20);
        give(x, "mmmm", 0, 1, 1, 1, 0);
        give(x, "a", 0, 2, 1, 1, 0);
        x.work(1);
        due("the second is at work", x.count(8), 1);
        due("it is hurried past the first", x.hurry(1), 0);
        due("it is still at work", x.count(8), 0);
        x.undo();
        due("undone", x.count(8), 1);

        x = shopWith();
        give(x, "a", 0, 2, 1, 1, 0);
        x.hurry(0);
        isRecorded(x, 7, 3);
    }

    private static void promise11Cancel() {
        promise = "11 cancel";
        TrophyPlates x = shopWith(20, 20);
        due("none there", x.cancel(0), INVALID);
        give(x, "ab", 0, 1, 1, 1, 0);
        give(x, "cd", 0, 2, 1, 1, 0);
        give(x, "ef", 0, 3, 1, 1, 1);
        due("-1", x.cancel(-1), INVALID);
        due("3", x.cancel(3), INVALID);
        due("the middle one", x.cancel(1), 2);
        due("year", x.orderOf(0, 1), 3);
        due("year", x.orderOf(1, 1), 2);
        due("its year is free", give(x, "gh", 0, 1, 1, 1, 0), 2);
        x.cancel(0);
        x.work(1);
        x.hurry(1);
        due("at work is", x.count(8), 1);
        due("one ahead of it", x.cancel(0), 1);
        due("at work is", x.count(8), 0);
        due("at work has", x.count(9), 3);
        due("the one at work", x.cancel(0), 0);
        counts(x, 8, NONE, NONE, NONE, 0);
        plateIs(x, 0, 20, 30, 0, 0, 0, NONE, NONE);
        due("undo", x.undo(), 4);
        counts(x, 8, 0, 3, 0);
        plateIs(x, 0, 20, 30, 1);

        x = engravedOnBothSides(24, 5, 5);
        give(x, "a", 0, 9, 1, 5, 0);
        give(x, "b", 0, 8, 1, 5, 0);
        x.work(1);
        plateIs(x, 0, 10, 18, 1, 0, 5);
        due("one behind the one at work", x.cancel(1), 1);
        due("at work is", x.count(8), 0);
        due("a ground side stays blank", x.cancel(0), 0);
        plateIs(x, 0, 10, 18, 0, 0, 5);
        due("ground", x.count(13), 1);

        x = shopWith(20);
        give(x, "a", 0, 9, 1, 5, 0);
        x.work(1);
        x.slip();
        x.cancel(0);
        plateIs(x, 0, 20, 30, 0, 5, 0);
        due("states", x.count(14), 5);
        due("undo", x.undo(), 4);
        due("the order is there", x.count(6), 1);
        due("at work", x.count(10), 0);
    }

    private static void promise12Work() {
        promise = "12 work";
        TrophyPlates x = shopWith(20, 20, 20);
        due("0", x.work(0), INVALID);
        due("601", x.work(601), INVALID);
        due("nothing to do", x.work(600), 0);
        due("recorded all the same", x.count(14), 5);
        give(x, "abc", 0, 5, 1, 2, 0);
        give(x, "de", 0, 7, 1, 1, 0);
        due("8 of 9 minutes", x.work(8), 0);
        counts(x, 8, 0, 1, 0, 0);
        due("states at work", x.count(1), 1);
        due("the ninth", x.work(1), 1);
        counts(x, 8, NONE, NONE, NONE, 1);
        due("the plate", x.plateFor(0, 5), 0);
        plateIs(x, 0, 20, 30, 2, 2, 0, 0, 5);
        due("the order is gone", x.count(6), 1);
        due("the next in 4", x.work(4), 1);
        due("the plate", x.plateFor(0, 7), 1);
        x.undo();
        x.undo();
        x.undo();
        due("both in 13", x.work(13), 2);
        due("done", x.count(11), 2);
        x.undo();
        due("one in 12", x.work(12), 1);
        counts(x, 8, 0, 1, 1, 1);
        due("the rest", x.work(600), 1);
        due("the other sides are blank", x.plate(1, 4), 0);
    }

    private static void promise12TheNextOrder() {
        promise = "12 the next order";
        TrophyPlates x = shopWith(10, 50);
        give(x, "mmmmmmmmmmmm", 0, 1, 1, 1, 0);
        give(x, "ab", 0, 2, 1, 1, 0);
        give(x, "ab", 0, 3, 2, 1, 0);
        due("the first has no plate wide enough", x.work(1), 0);
        due("the second begins", x.count(8), 1);
        due("with plate", x.count(10), 0);
        due("a rush", give(x, "a", 0, 4, 1, 1, 1), 0);
        due("does not stop it", x.count(8), 2);
        due("it is done", x.work(3), 1);
        due("the rush is not begun without a minute", x.count(8), NONE);
        due("a minute", x.work(1), 0);
        due("the rush begins", x.count(8), 0);
        due("with plate", x.count(10), 1);
        x.work(600);
        due("no plate is left for the rest", x.count(6), 2);
        x.cut(71, 30);
        due("71 is long enough for 12 m's, and as the earliest it comes off for the last order", x.work(600), 2);
        due("on the back then", x.plate(2, 4), 1);
        x.undo();
        x.undo();
        x.cut(70, 30);
        x.spoil(2);
        due("but no spoiled plate", x.work(600), 0);
    }

    private static void promise12ThePlateForAnOrder() {
        promise = "12 the plate for an order";
        // an a in size 3 is 12 long
        TrophyPlates x = new TrophyPlates();
        x.addShield(6);
        x.cut(11, 5);
        x.cut(30, 20);
        x.cut(20, 30);
        x.cut(20, 29);
        x.cut(20, 29);
        x.cut(12, 5);
        int[] plates = {5, 3, 4, 2, 1};
        int[] depths = {3, 4, 4, 4, 4};
        for (int i = 0; i < 5; i++) {
            give(x, "a", 0, i + 1, 3, depths[i], 0);
            x.work(600);
            due("the least wide, the thinnest, the lowest number", x.plateFor(0, i + 1), plates[i]);
            due("on the front", x.plate(plates[i], 3), depths[i]);
        }
        due("11 is too narrow for 12", give(x, "a", 0, 6, 3, 3, 0), 0);
        due("no plate", x.work(600), 0);
        due("nor in the forecast", x.doneIn(0), NONE);

        // 8 - 3 - 3 is 2, 8 - 3 - 4 is less
        x = new TrophyPlates();
        x.addShield(6);
        x.cut(10, 8);
        give(x, "a", 0, 1, 1, 3, 0);
        x.work(600);
        x.takeOff(0, 1);
        give(x, "a", 0, 1, 1, 4, 0);
        // 8 - 3 - 1 - 4 is 0
        due("neither ready nor to be ground", x.work(600), 0);
        x.cancel(0);
        give(x, "a", 0, 1, 1, 3, 0);
        due("the back is ready", x.work(600), 1);
        plateIs(x, 0, 10, 8, 2, 3, 3);

        // the front is ground if both can, and takes 10 minutes more
        x = engravedOnBothSides(24, 5, 4);
        give(x, "ab", 0, 1, 1, 5, 0);
        due("a minute", x.work(1), 0);
        plateIs(x, 0, 10, 18, 1, 0, 4);
        due("12 and 10 minutes", x.count(9), 21);
        due("ground", x.count(13), 1);
        due("20 more", x.work(20), 0);
        due("the last", x.work(1), 1);
        plateIs(x, 0, 10, 18, 2, 5, 4);

        // 18 thick, the front blank and 4 behind: 18 - 5 - 4 is 9
        x = engravedOnBothSides(24, 5, 4);
        x.grind(0, 0);
        due("a blank side is ready", give(x, "a", 0, 1, 1, 5, 0), 0);
        x.work(1);
        due("no more minutes than the effort", x.count(9), 5);

        // wider, but ready: ahead of all that are to be ground
        x = engravedOnBothSides(30, 5, 5);
        x.cut(200, 7);
        give(x, "a", 0, 1, 1, 5, 0);
        x.work(1);
        due("the wide one that is ready", x.count(10), 1);

        theSideThatIsReady();
        theThinnestAsItIs();
    }

    private static void theSideThatIsReady() {
        // 13 - 5 - 5 is 3: both sides are engraved, and the front is ground: 7 thick with 5 behind
        TrophyPlates x = engravedOnBothSides(13, 5, 5);
        x.grind(0, 0);
        plateIs(x, 0, 10, 7, 0, 0, 5);
        write(x, "a");
        due("depth 1: 7 - 1 - 5 is 1, 7 - 5 - 1 - 1 is 0", x.plateFound(1, 1, 0), NONE);
        x = engravedOnBothSides(14, 1, 5);
        x.grind(0, 0);
        plateIs(x, 0, 10, 12, 0, 0, 5);
        write(x, "a");
        due("depth 5: 12 - 5 - 5 is 2, the front", x.plateFound(1, 5, 1), 0);
        due("not ground", x.plateFound(1, 5, 2), 0);
        x = new TrophyPlates();
        x.addShield(2);
        x.cut(10, 9);
        give(x, "a", 0, 1, 1, 1, 0);
        x.work(600);
        x.takeOff(0, 1);
        write(x, "a");
        due("depth 5: 9 - 5 - 1 is 3, the back", x.plateFound(1, 5, 1), 1);
        due("not ground", x.plateFound(1, 5, 2), 0);
    }

    private static void theThinnestAsItIs() {
        // plate 0 is 20 thick and would be 14 once ground, plate 1 is 19 and would be 17
        TrophyPlates x = new TrophyPlates();
        x.addShield(6);
        x.cut(10, 20);
        x.cut(10, 19);
        give(x, "a", 0, 1, 1, 1, 0);
        give(x, "a", 0, 2, 1, 1, 0);
        x.work(600);
        due("the thinner one first", x.plateFor(0, 1), 1);
        due("the other one then", x.plateFor(0, 2), 0);
        x = new TrophyPlates();
        x.addShield(6);
        x.cut(10, 20);
        engraveBothSides(x, 0, 5);
        x.cut(10, 19);
        engraveBothSides(x, 1, 1);
        write(x, "a");
        due("the thinnest as it is", x.plateFound(1, 5, 0), 1);
        due("its front", x.plateFound(1, 5, 1), 0);
        due("to be ground", x.plateFound(1, 5, 2), 1);
        x.clearText();
        x.cut(11, 7);
        engraveBothSides(x, 2, 1);
        write(x, "a");
        due("a wider one is not taken", x.plateFound(1, 1, 0), 1);
        x.spoil(1);
        due("nor if it is thinner", x.plateFound(1, 1, 0), 0);
        x.spoil(0);
        due("only then", x.plateFound(1, 1, 0), 2);
    }

    /** The plate must be ready on both sides, and ahead of all others that are. */
    private static void engraveBothSides(TrophyPlates x, int plate, int depth) {
        for (int side = 0; side < 2; side++) {
            give(x, "a", 0, 1, 1, depth, 0);
            x.work(600);
            due("the plate engraved", x.takeOff(0, 1), plate);
        }
    }

    private static void promise12FullShields() {
        promise = "12 full shields";
        TrophyPlates x = shopWith(20, 20, 20, 20);
        int[] years = {10, 5};
        for (int year : years) {
            give(x, "a", 0, year, 1, 1, 0);
            due("work", x.work(600), 1);
        }
        due("both stay", x.count(2), 2);
        give(x, "a", 0, 7, 1, 2, 0);
        due("work", x.work(600), 1);
        due("the earliest comes off", x.plateFor(0, 5), NONE);
        plateIs(x, 1, 20, 30, 0, 1, 0, NONE, NONE);
        due("the new one is on", x.plateFor(0, 7), 2);
        x.spoil(1);
        give(x, "a", 0, 6, 1, 3, 0);
        due("the new one may be the earliest", x.work(600), 1);
        due("so it is not on", x.plateFor(0, 6), NONE);
        plateIs(x, 3, 20, 30, 0, 3, 0, NONE, NONE);
        due("done", x.count(11), 4);
        due("on the shield", x.shield(0, 1), 2);
        give(x, "a", 0, 6, 1, 3, 0);
        due("its year is free, its plate is used again", x.work(600), 1);
        plateIs(x, 3, 20, 30, 0, 3, 3, NONE, NONE);

        x = shopWith(20, 20);
        x.addShield(2);
        give(x, "a", 0, 1, 1, 1, 0);
        give(x, "a", 1, 2, 1, 1, 0);
        give(x, "a", 0, 3, 1, 1, 0);
        due("two shields have each their own places", x.work(600), 2);
        due("no plate is free", x.count(0), 0);
    }

    private static void promise13Slip() {
        promise = "13 slip";
        TrophyPlates x = shopWith(20, 20);
        due("nothing at work", x.slip(), ILLEGAL);
        due("nothing recorded", x.count(12), 0);
        give(x, "ab", 0, 1, 1, 3, 0);
        due("an order that has not begun", x.slip(), ILLEGAL);
        x.work(5);
        due("turned", x.slip(), 1);
        plateIs(x, 0, 20, 30, 1, 3, 0);
        counts(x, 8, 0, 8, 0, 0, 1, 0);
        x.work(3);
        due("ground: both sides are engraved", x.slip(), 2);
        plateIs(x, 0, 20, 26, 1, 3, 0);
        counts(x, 8, 0, 18, 0, 0, 2, 1);
        due("done on the back", x.work(18), 1);
        plateIs(x, 0, 20, 26, 2, 3, 3);

        // 7 - 5 - 5 is less than 2, 7 - 5 - 1 - 5 too
        x = shopWith();
        x.cut(20, 7);
        x.cut(30, 7);
        give(x, "a", 0, 1, 1, 5, 0);
        give(x, "b", 0, 2, 1, 5, 0);
        x.work(1);
        due("spoiled", x.slip(), 3);
        plateIs(x, 0, 20, 7, 3, 5, 0, NONE, NONE);
        counts(x, 8, NONE, NONE, NONE, 0, 1, 0);
        due("the order stays", x.count(6), 2);
        due("at work no more", x.slip(), ILLEGAL);
        x.work(1);
        counts(x, 8, 0, 5, 1);
        due("undo", x.undo(), 4);
        due("undo", x.undo(), 3);
        counts(x, 8, 0, 5, 0, 0, 0);

        due("the edge of turning: 8 - 3 - 3 is 2", slipOn(8, 3), 1);
        due("7 - 3 - 3 is 1, ground: 7 - 3 - 1 - 3 is 0", slipOn(7, 3), 3);
        due("5 - 1 - 1 is 3", slipOn(5, 1), 1);
        due("5 - 2 - 2 is 1, ground: 0", slipOn(5, 2), 3);
        // engraved behind with 3, then 3: 12 - 3 - 1 - 3 - 3 is 2
        due("the edge of grinding", slipOnBack(12, 3), 2);
        due("below it", slipOnBack(11, 3), 3);
    }

    private static int slipOn(int thickness, int depth) {
        TrophyPlates x = shopWith();
        x.cut(20, thickness);
        give(x, "a", 0, 1, 1, depth, 0);
        x.work(1);
        return x.slip();
    }

    private static int slipOnBack(int thickness, int depth) {
        TrophyPlates x = shopWith();
        x.cut(20, thickness);
        give(x, "a", 0, 1, 1, depth, 0);
        x.work(600);
        x.takeOff(0, 1);
        give(x, "a", 0, 1, 1, depth, 0);
        x.work(1);
        return x.slip();
    }

    private static void promise14Undo() {
        promise = "14 undo";
        TrophyPlates x = new TrophyPlates();
        due("nothing to undo", x.undo(), ILLEGAL);
        for (int plate = 0; plate < 7; plate++) {
            x.cut(10 + plate, 10);
        }
        due("five states at most", x.count(14), 5);
        write(x, "ab");
        for (int left = 4; left >= 0; left--) {
            due("undo", x.undo(), left);
            due("plates", x.count(4), left + 2);
            due("the width of the last", x.plate(left + 1, 0), 11 + left);
        }
        due("the oldest are dropped", x.undo(), ILLEGAL);
        due("plates", x.count(4), 2);
        due("the text stays", x.count(15), 2);

        x = shopWith(20, 30);
        x.cut(9, 9);
        due("a refused call records nothing", x.count(14), 3);
        give(x, "ab", 0, 5, 2, 3, 0);
        x.work(3);
        write(x, "xyz");
        x.slip();
        x.undo();
        counts(x, 8, 0, 7, 0, 0, 0, 0, 4, 3);
        plateIs(x, 0, 20, 30, 1, 0, 0);
        x.undo();
        counts(x, 8, NONE, NONE, NONE);
        due("the order is there", x.orderOf(0, 7), 10);
        due("its name", x.letter(0, 1), 'b');
        x.undo();
        due("the order is gone", x.count(6), 0);
        due("the text is as it was", x.lengthOf(1), 14);
        due("an order after undo", x.order(0, 5, 1, 1, 0), 0);
        due("with the new name", x.letter(0, 0), 'x');
        due("work that finds nothing is recorded", x.work(600), 1);
        due("done", x.count(11), 1);
        x.undo();
        due("none done", x.count(11), 0);
        due("history goes down", x.count(14), 3);

        x = shopWith(20);
        x.addShield(3);
        give(x, "a", 1, 8, 1, 2, 0);
        x.work(1);
        due("turned", x.slip(), 1);
        x.undo();
        x.work(2);
        plateIs(x, 0, 20, 30, 2, 2, 0, 1, 8);
        x.takeOff(1, 8);
        x.undo();
        plateIs(x, 0, 20, 30, 2, 2, 0, 1, 8);
        x.undo();
        x.undo();
        counts(x, 8, NONE, NONE, NONE, 0);
        x.addShield(3);
        give(x, "b", 2, 8, 1, 2, 0);
        x.cancel(0);
        x.undo();
        due("the shield of the first", x.orderOf(0, 0), 1);
        due("the shield of the second", x.orderOf(1, 0), 2);
        aFullShop();
    }

    /** 20 plates, 3 shields and 10 orders, with a history of as many states as it holds. */
    private static void aFullShop() {
        TrophyPlates x = new TrophyPlates();
        for (int plate = 0; plate < 20; plate++) {
            x.cut(10 + plate, 30);
        }
        for (int shield = 0; shield < 3; shield++) {
            x.addShield(6);
        }
        for (int year = 1; year <= 10; year++) {
            give(x, "a", year % 3, year, 1, year % 5 + 1, 0);
        }
        due("the last is done in", x.doneIn(9), 40);
        due("the last hurried", x.moved(9), 100000 + 9 * 2);
        due("all", x.work(600), 10);
        due("on the shields", x.count(2), 10);
        due("undo", x.undo(), 4);
        due("the orders are there", x.count(6), 10);
        due("the tenth minute", x.work(10), 2);
        due("the first is cancelled", x.cancel(0), 7);
        due("the last", x.orderOf(6, 1), 10);
        x.undo();
        x.undo();
        due("cancel one of ten", x.cancel(4), 9);
        due("the last", x.orderOf(8, 1), 10);
        due("cancel the last", x.cancel(8), 8);
        due("undo", x.undo(), 4);
        due("the last hurried", x.hurry(8), 0);
        due("its year", x.orderOf(0, 1), 10);
    }

    private static void promise15Count() {
        promise = "15 count";
        TrophyPlates x = shopWith(20, 20, 20, 20);
        due("-1", x.count(-1), INVALID);
        due("16", x.count(16), INVALID);
        due("least int", x.count(Integer.MIN_VALUE), INVALID);
        x.addShield(3);
        x.spoil(3);
        give(x, "a", 0, 1, 1, 1, 0);
        x.work(2);
        give(x, "bc", 0, 2, 1, 1, 0);
        x.work(1);
        give(x, "d", 0, 3, 1, 1, 1);
        give(x, "e", 0, 4, 1, 1, 1);
        write(x, "fgh");
        counts(x, 0, 1, 1, 1, 1, 4, 2, 3, 2, 2, 3, 1, 1, 0, 0, 5, 3);
        x.slip();
        counts(x, 8, 2, 4, 1, 1, 1, 0, 5, 3);
        x.slip();
        counts(x, 8, 2, 14, 1, 1, 2, 1, 5, 3);
    }

    private static void promise16Plate() {
        promise = "16 plate";
        TrophyPlates x = new TrophyPlates();
        x.addShield(2);
        x.addShield(2);
        due("no plate", x.plate(0, 0), INVALID);
        x.cut(33, 17);
        due("plate -1", x.plate(-1, 0), INVALID);
        due("plate 1", x.plate(1, 0), INVALID);
        due("plate 20", x.plate(20, 0), INVALID);
        due("what -1", x.plate(0, -1), INVALID);
        due("what 7", x.plate(0, 7), INVALID);
        plateIs(x, 0, 33, 17, 0, 0, 0, NONE, NONE);
        give(x, "a", 1, 77, 1, 4, 0);
        x.work(1);
        plateIs(x, 0, 33, 17, 1, 0, 0, NONE, NONE);
        x.slip();
        plateIs(x, 0, 33, 17, 1, 4, 0, NONE, NONE);
        x.work(600);
        plateIs(x, 0, 33, 17, 2, 4, 4, 1, 77);
        x.takeOff(1, 77);
        plateIs(x, 0, 33, 17, 0, 4, 4, NONE, NONE);
        x.grind(0, 0);
        plateIs(x, 0, 33, 12, 0, 0, 4, NONE, NONE);
        x.spoil(0);
        plateIs(x, 0, 33, 12, 3, 0, 4, NONE, NONE);
    }

    private static void promise17Shield() {
        promise = "17 shield";
        TrophyPlates x = new TrophyPlates();
        due("no shield", x.shield(0, 0), INVALID);
        x.addShield(4);
        x.addShield(2);
        due("shield -1", x.shield(-1, 0), INVALID);
        due("shield 2", x.shield(2, 0), INVALID);
        due("what -1", x.shield(0, -1), INVALID);
        due("what 5", x.shield(0, 5), INVALID);
        shieldIs(x, 0, 4, 0, NONE, NONE, 0);
        int[] years = {500, 490, 510};
        int[][] wanted = {{4, 1, 500, 500, 0}, {4, 2, 490, 500, 9}, {4, 3, 490, 510, 18}};
        for (int i = 0; i < 3; i++) {
            x.cut(20, 10);
            give(x, "a", 0, years[i], 1, 1, 0);
            x.work(600);
            shieldIs(x, 0, wanted[i]);
        }
        shieldIs(x, 1, 2, 0, NONE, NONE, 0);
        x.takeOff(0, 490);
        shieldIs(x, 0, 4, 2, 500, 510, 9);
        x.takeOff(0, 510);
        x.takeOff(0, 500);
        shieldIs(x, 0, 4, 0, NONE, NONE, 0);
    }

    private static void shieldIs(TrophyPlates x, int shield, int... wanted) {
        for (int what = 0; what < wanted.length; what++) {
            due("shield(" + shield + ", " + what + ")", x.shield(shield, what), wanted[what]);
        }
    }

    private static void promise18PlateFor() {
        promise = "18 plateFor";
        TrophyPlates x = shopWith(30, 20);
        x.addShield(2);
        due("shield -1", x.plateFor(-1, 1), INVALID);
        due("shield 2", x.plateFor(2, 1), INVALID);
        due("year 0", x.plateFor(0, 0), INVALID);
        due("year 1000", x.plateFor(0, 1000), INVALID);
        due("none", x.plateFor(0, 1), NONE);
        give(x, "a", 1, 999, 1, 1, 0);
        due("only ordered", x.plateFor(1, 999), NONE);
        x.work(1);
        due("at work", x.plateFor(1, 999), NONE);
        x.work(1);
        due("there", x.plateFor(1, 999), 1);
        due("on another shield", x.plateFor(0, 999), NONE);
        due("for another year", x.plateFor(1, 998), NONE);
        due("the looks record nothing", x.count(14), 5);
    }

    private static void promise19OrderOf() {
        promise = "19 orderOf";
        TrophyPlates x = shopWith(20);
        x.addShield(2);
        due("no order", x.orderOf(0, 0), INVALID);
        give(x, "tim", 1, 42, 3, 2, 0);
        give(x, "jim", 0, 999, 4, 5, 1);
        due("-1", x.orderOf(-1, 0), INVALID);
        due("2", x.orderOf(2, 0), INVALID);
        due("what -1", x.orderOf(0, -1), INVALID);
        due("what 8", x.orderOf(0, 8), INVALID);
        int[][] wanted = {{0, 999, 4, 5, 1, 3, 44, 27}, {1, 42, 3, 2, 0, 3, 33, 15}};
        for (int order = 0; order < 2; order++) {
            for (int what = 0; what < 8; what++) {
                due("orderOf(" + order + ", " + what + ")", x.orderOf(order, what), wanted[order][what]);
            }
        }
    }

    private static void promise20Letter() {
        promise = "20 letter";
        TrophyPlates x = shopWith(20);
        due("no order", x.letter(0, 0), INVALID);
        give(x, "abcdefghijkl", 0, 1, 1, 1, 0);
        give(x, "zy", 0, 2, 1, 1, 0);
        due("-1", x.letter(-1, 0), INVALID);
        due("2", x.letter(2, 0), INVALID);
        due("index -1", x.letter(0, -1), INVALID);
        for (int index = 0; index < 12; index++) {
            due("letter", x.letter(0, index), 'a' + index);
        }
        due("index 12", x.letter(0, 12), NONE);
        due("most int", x.letter(0, Integer.MAX_VALUE), NONE);
        due("z", x.letter(1, 0), 'z');
        due("y", x.letter(1, 1), 'y');
        due("index 2", x.letter(1, 2), NONE);
        write(x, "q");
        due("the text is another", x.letter(1, 0), 'z');
        x.hurry(1);
        due("after hurry", x.letter(0, 0), 'z');
    }

    private static void promise21LengthOf() {
        promise = "21 lengthOf";
        TrophyPlates x = new TrophyPlates();
        due("size 0", x.lengthOf(0), INVALID);
        due("size 5", x.lengthOf(5), INVALID);
        for (int size = 1; size <= 4; size++) {
            due("empty", x.lengthOf(size), 0);
        }
        for (char letter = 'a'; letter <= 'z'; letter++) {
            x.append(letter);
            int width = "fijlrt".indexOf(letter) >= 0 ? 2 : "mw".indexOf(letter) >= 0 ? 5 : 4;
            due("one letter", x.lengthOf(1), width);
            x.append(letter);
            due("two letters, one gap, size 3", x.lengthOf(3), 3 * (2 * width + 1));
            x.clearText();
        }
        write(x, "mmmmmmmmmmmm");
        due("twelve m's", x.lengthOf(4), 4 * (60 + 11));
    }

    private static void promise22PlateFound() {
        promise = "22 plateFound";
        TrophyPlates x = shopWith(40, 20);
        due("size 0", x.plateFound(0, 1, 0), INVALID);
        due("size 5", x.plateFound(5, 1, 0), INVALID);
        due("depth 0", x.plateFound(1, 0, 0), INVALID);
        due("depth 6", x.plateFound(1, 6, 0), INVALID);
        due("what -1", x.plateFound(1, 1, -1), INVALID);
        due("what 3", x.plateFound(1, 1, 3), INVALID);
        due("text empty", x.plateFound(1, 1, 0), ILLEGAL);
        write(x, "anna");
        due("19 fit on 20", x.plateFound(1, 1, 0), 1);
        due("38 fit on 40", x.plateFound(2, 1, 0), 0);
        due("57 fit on none", x.plateFound(3, 1, 0), NONE);
        due("the front", x.plateFound(1, 1, 1), 0);
        due("not ground", x.plateFound(1, 1, 2), 0);
        x.order(0, 1, 1, 1, 0);
        x.work(1);
        write(x, "anna");
        due("not the one at work", x.plateFound(1, 1, 0), 0);
        x.work(600);
        due("not the one on the shield", x.plateFound(1, 1, 0), 0);
        x.takeOff(0, 1);
        due("the back", x.plateFound(1, 1, 1), 1);
        x.spoil(1);
        due("not a spoiled one", x.plateFound(1, 1, 0), 0);
        int states = x.count(14);
        x.plateFound(1, 1, 0);
        due("it changes nothing", x.count(14), states);
        due("the text stays", x.count(15), 4);

        x = engravedOnBothSides(16, 3, 5);
        write(x, "a");
        due("16 - 3 - 1 - 5 - 5 is 2: the front", x.plateFound(1, 5, 1), 0);
        due("is to be ground", x.plateFound(1, 5, 2), 1);
        due("it is not yet ground", x.plate(0, 3), 3);
        x = engravedOnBothSides(15, 3, 5);
        write(x, "a");
        due("15 is too thin", x.plateFound(1, 5, 0), NONE);
        due("but not for 4", x.plateFound(1, 4, 0), 0);
    }

    private static void promise23DoneIn() {
        promise = "23 doneIn";
        TrophyPlates x = shopWith(20, 20);
        due("no order", x.doneIn(0), INVALID);
        give(x, "ab", 0, 10, 1, 1, 0);
        give(x, "cd", 0, 20, 1, 2, 0);
        give(x, "ef", 0, 30, 1, 3, 0);
        give(x, "gh", 0, 40, 1, 4, 0);
        due("-1", x.doneIn(-1), INVALID);
        due("4", x.doneIn(4), INVALID);
        due("the first", x.doneIn(0), 4);
        due("the second", x.doneIn(1), 10);
        due("the third has no plate", x.doneIn(2), NONE);
        x.cut(20, 30);
        due("the third on the new plate", x.doneIn(2), 18);
        due("the fourth on one that comes back", x.doneIn(3), 28);
        x.work(3);
        due("the one at work", x.doneIn(0), 1);
        due("the next", x.doneIn(1), 7);
        due("the last", x.doneIn(3), 25);
        counts(x, 8, 0, 1, 0, 0, 0, 0, 5, 0);
        x.hurry(3);
        due("the one at work goes on", x.doneIn(1), 1);
        due("then the rush", x.doneIn(0), 11);
        due("work agrees", x.work(11), 2);
        due("the rush is done", x.plateFor(0, 40), 1);

        // an order is left out while there is no plate, and begins when one comes back
        x = shopWith();
        x.cut(70, 30);
        x.cut(10, 30);
        x.cut(10, 30);
        x.addShield(3);
        give(x, "mmmm", 0, 1, 3, 1, 0);
        x.work(600);
        due("plate 0 is on", x.plateFor(0, 1), 0);
        give(x, "mmmm", 0, 5, 3, 2, 0);
        give(x, "a", 0, 6, 1, 1, 0);
        give(x, "b", 0, 7, 1, 1, 0);
        due("the one in front waits", x.doneIn(0), 24);
        due("the second", x.doneIn(1), 2);
        due("the third sends plate 0 back", x.doneIn(2), 4);
        due("work agrees", x.work(23), 2);
        due("work agrees", x.work(1), 1);

        x = engravedOnBothSides(30, 5, 5);
        give(x, "a", 0, 1, 1, 5, 0);
        due("with the minutes of grinding", x.doneIn(0), 16);
        due("nothing is ground", x.count(13), 0);
    }

    private static void promise24Moved() {
        promise = "24 moved";
        TrophyPlates x = shopWith(20, 20);
        due("no order", x.moved(0), INVALID);
        give(x, "ab", 0, 10, 1, 1, 0);
        due("alone", x.moved(0), 100000);
        give(x, "abcd", 0, 20, 1, 2, 0);
        due("-1", x.moved(-1), INVALID);
        due("2", x.moved(2), INVALID);
        due("the first", x.moved(0), 100000);
        due("the second", x.moved(1), 100012);
        give(x, "e", 0, 5, 1, 1, 1);
        due("a rush", x.moved(0), ILLEGAL);
        due("there are two plates for three orders", x.moved(2), NONE);
        x.cut(20, 30);
        due("the rush is first all the same, the other one 12 later", x.moved(2), 100012);
        x.spoil(1);
        due("not all are done", x.moved(2), NONE);
        due("a rush, and not all are done", x.moved(0), ILLEGAL);
        x.undo();
        x.work(1);
        due("the rush at work goes on", x.moved(2), 100012);
        due("it changes nothing", x.count(7), 1);
        due("nor the history", x.count(14), 5);
        theSumCanBeBelow();
        anyOrderNotDone();
    }

    /** A waits for the wide plate, C is long, and B sends the wide plate back: A is sooner by more than C is later. */
    private static void theSumCanBeBelow() {
        TrophyPlates x = shopWith(60, 10);
        x.addShield(2);
        give(x, "mm", 0, 10, 4, 1, 0);
        x.work(600);
        give(x, "a", 0, 20, 1, 1, 0);
        x.work(600);
        due("the shield is full", x.shield(0, 1), 2);
        x.cut(12, 30);
        x.cut(12, 30);
        give(x, "w", 1, 2, 4, 1, 0);
        give(x, "iiii", 1, 3, 1, 5, 0);
        give(x, "i", 0, 30, 1, 1, 0);
        due("A now", x.doneIn(0), 31);
        due("C now", x.doneIn(1), 24);
        due("B now", x.doneIn(2), 26);
        due("A 24 sooner, C 7 later", x.moved(2), 99983);
        due("B then", x.hurry(2), 0);
        due("B then", x.doneIn(0), 2);
        due("A then", x.doneIn(1), 7);
        due("C then", x.doneIn(2), 31);
    }

    private static void anyOrderNotDone() {
        TrophyPlates x = shopWith(10, 20);
        give(x, "aaa", 0, 1, 1, 1, 0);
        give(x, "a", 0, 2, 1, 1, 0);
        give(x, "bb", 0, 3, 1, 1, 0);
        due("the order itself would not be done now", x.moved(2), NONE);
        due("another one would not be done now", x.moved(1), NONE);
        due("all are done with a plate more", x.cut(20, 30), 2);
        due("both are 4 later", x.moved(2), 100008);
        x.cancel(0);
        due("one is 4 later", x.moved(1), 100004);
        notDoneThen();
    }

    private static void notDoneThen() {
        // depth 4 needs the thickness 6, and the least wide plate has it: an order ahead would take it away
        TrophyPlates x = new TrophyPlates();
        x.addShield(3);
        x.cut(10, 6);
        x.cut(11, 5);
        give(x, "a", 0, 1, 1, 4, 0);
        give(x, "b", 0, 2, 1, 1, 0);
        due("now the first", x.doneIn(0), 5);
        due("now the second", x.doneIn(1), 7);
        due("the first would not be done then", x.moved(1), NONE);
        due("the first can be hurried", x.moved(0), 100000);
    }

    private static void promise25LargestSize() {
        promise = "25 largestSize";
        TrophyPlates x = new TrophyPlates();
        due("no plate", x.largestSize(0), INVALID);
        x.cut(10, 5);
        x.cut(11, 5);
        x.cut(33, 5);
        x.cut(43, 5);
        x.cut(44, 5);
        x.cut(200, 5);
        due("-1", x.largestSize(-1), INVALID);
        due("6", x.largestSize(6), INVALID);
        due("text empty", x.largestSize(0), ILLEGAL);
        write(x, "tim");
        int[] wanted = {NONE, 1, 3, 3, 4, 4};
        for (int plate = 0; plate < 6; plate++) {
            due("largestSize(" + plate + ")", x.largestSize(plate), wanted[plate]);
        }
        x.spoil(2);
        due("by its width alone", x.largestSize(2), 3);
    }
}

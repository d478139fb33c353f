/** The sentences of promises 12 to 14 that name a boundary case, and of the terms behind them. */
public final class WorkEdges {
    private static final int INVALID = Sentence.INVALID;
    private static final int ILLEGAL = Sentence.ILLEGAL;
    private static final int NONE = Sentence.NONE;

    public static void main(String[] args) {
        Sentence.begin(args);
        work();
        workByMinutes();
        theNextOrder();
        plateForAnOrder();
        sideForAnOrder();
        groundAsTheOrderBegins();
        orderDone();
        fullShields();
        slip();
        slipTurns();
        slipGrinds();
        slipSpoils();
        undo();
        undoRestores();
        Sentence.end();
    }

    private static void sentence(String words, Runnable test) {
        Sentence.sentence(words, test);
    }

    private static void due(String call, int got, int want) {
        Sentence.due(call, got, want);
    }

    /** Ten orders with an effort of 2 each, and a plate for each of them. */
    private static TrophyPlates withTenToDo() {
        TrophyPlates x = Shops.withManyPlates(10);
        x.addShield(5);
        x.addShield(5);
        for (int order = 0; order < 10; order++) {
            Shops.giveSmall(x, order % 2, order + 1);
        }
        return x;
    }

    private static void work() {
        Sentence.promise(12, "work");
        sentence("minutes: 1 to 600: the least and the most", () -> {
            TrophyPlates x = Shops.atWork();
            due("work(1)", x.work(1), 0);
            due("count(9)", x.count(9), 4);
            due("work(600)", x.work(600), 1);
        });
        sentence("minutes: 1 to 600: 0, 601 and the ends of int are refused with INVALID_ARGUMENT", () ->
            Sentence.outside("work(minutes)", 1, 600, Shops::busy, TrophyPlates::work));
        sentence("returns the number of orders that are done by this: 0 if there is no order", () -> {
            due("work(1)", new TrophyPlates().work(1), 0);
            due("work(600)", Shops.withPlates(20).work(600), 0);
        });
        sentence("returns the number of orders that are done by this: 0 if none can begin", () -> {
            TrophyPlates x = Shops.withOrders(10);
            due("work(600)", x.work(600), 0);
            Sentence.counts(x, 6, 10, 0, NONE, NONE, NONE, 0);
        });
        sentence("returns the number of orders that are done by this: from 0 to 10", () -> {
            for (int done = 0; done <= 10; done++) {
                due("work(" + (2 * done + 1) + ")", withTenToDo().work(2 * done + 1), done);
            }
            TrophyPlates x = withTenToDo();
            due("work(600)", x.work(600), 10);
            Sentence.counts(x, 6, 0, 0, NONE, NONE, NONE, 10);
        });
        sentence("returns the number of orders that are done by this: not those done before", () -> {
            TrophyPlates x = withTenToDo();
            due("work(6)", x.work(6), 3);
            due("work(4)", x.work(4), 2);
            due("count(11)", x.count(11), 5);
        });
        sentence("this is an action: it is recorded also if nothing changes by it", () -> {
            TrophyPlates x = new TrophyPlates();
            due("work(1)", x.work(1), 0);
            due("count(14)", x.count(14), 1);
            due("undo()", x.undo(), 0);
        });
        sentence("this is an action: one undo() takes back all that was done by it", () -> {
            TrophyPlates x = withTenToDo();
            x.work(19);
            due("undo()", x.undo(), 4);
            Sentence.counts(x, 0, 10, 0, 0);
            Sentence.counts(x, 6, 10, 0, NONE, NONE, NONE, 0);
        });
    }

    private static void workByMinutes() {
        Sentence.promise(12, "work");
        sentence("the order at work gets minutes until it is done: one less than its effort, and its effort", () -> {
            TrophyPlates x = Shops.withPlates(20);
            Shops.give(x, "abc", 0, 7, 1, 3, 0);
            due("11 of 12 minutes", x.work(11), 0);
            Sentence.counts(x, 8, 0, 1, 0, 0);
            due("the last one", x.work(1), 1);
            Sentence.counts(x, 8, NONE, NONE, NONE, 1);
            TrophyPlates y = Shops.withPlates(20);
            Shops.give(y, "abc", 0, 7, 1, 3, 0);
            due("all 12 at once", y.work(12), 1);
        });
        sentence("or the minutes are used up: the next order does not begin without a minute", () -> {
            TrophyPlates x = withTenToDo();
            due("work(2)", x.work(2), 1);
            Sentence.counts(x, 8, NONE, NONE, NONE);
            Sentence.counts(x, 0, 9, 0, 1);
        });
        sentence("as long as there are minutes, the next one begins: with a single minute that is left", () -> {
            TrophyPlates x = withTenToDo();
            due("work(3)", x.work(3), 1);
            Sentence.counts(x, 8, 0, 1, 1);
            Sentence.counts(x, 0, 8, 1, 1);
        });
        sentence("minutes that no order gets are lost", () -> {
            TrophyPlates x = Shops.atWork();
            due("work(600)", x.work(600), 1);
            x.cut(20, 30);
            Shops.give(x, "abc", 0, 8, 1, 3, 0);
            due("work(1)", x.work(1), 0);
            due("count(9)", x.count(9), 11);
        });
        sentence("the effort is the number of letters times the sum of size and depth: the least, 2", () -> {
            TrophyPlates x = Shops.withPlates(20);
            Shops.give(x, "a", 0, 1, 1, 1, 0);
            x.work(1);
            due("count(9)", x.count(9), 1);
        });
        sentence("the effort is the number of letters times the sum of size and depth: the most, 108", () -> {
            TrophyPlates x = Shops.withPlates(200);
            Shops.give(x, "iiiiiiiiiiii", 0, 1, 4, 5, 0);
            due("work(107)", x.work(107), 0);
            due("count(9)", x.count(9), 1);
            due("work(1)", x.work(1), 1);
        });
        sentence("600 minutes can be too few: five orders of 108, and 60 minutes of the sixth", () -> {
            TrophyPlates x = Shops.tenLongOnes();
            due("work(600)", x.work(600), 5);
            Sentence.counts(x, 8, 0, 48, 5, 5);
            due("work(540)", x.work(540), 5);
            due("count(6)", x.count(6), 0);
        });
    }

    private static void theNextOrder() {
        Sentence.promise(12, "work");
        sentence("the next one that begins is the first one in the row for which there is a plate", () -> {
            TrophyPlates x = Shops.withPlates(10);
            Shops.give(x, "mm", 0, 1, 1, 1, 0);
            Shops.give(x, "mi", 0, 2, 2, 1, 0);
            Shops.give(x, "m", 0, 3, 2, 1, 0);
            Shops.give(x, "m", 0, 4, 1, 1, 0);
            due("11 and 16 do not fit on 10, but 10 does", x.work(1), 0);
            Sentence.counts(x, 8, 2, 2, 0);
        });
        sentence("the next one that begins is the first one in the row, if there is a plate for it", () -> {
            TrophyPlates x = Shops.withPlates(10, 20);
            Shops.give(x, "mmm", 0, 1, 1, 1, 0);
            Shops.give(x, "m", 0, 2, 1, 1, 0);
            x.work(1);
            Sentence.counts(x, 8, 0, 5, 1);
        });
        sentence("a rush begins ahead of an order that was given before", () -> {
            TrophyPlates x = Shops.withPlates(10);
            Shops.giveSmall(x, 0, 1);
            Shops.give(x, "b", 0, 2, 1, 2, 1);
            x.work(1);
            Sentence.counts(x, 8, 0, 2, 0);
            due("orderOf(0, 1)", x.orderOf(0, 1), 2);
        });
        sentence("at most one order is at work: it stays at work also if a rush is given, and is done first", () -> {
            TrophyPlates x = Shops.atWork();
            x.cut(20, 30);
            Shops.give(x, "a", 0, 8, 1, 1, 1);
            due("work(5)", x.work(5), 1);
            due("plateFor(0, 7)", x.plateFor(0, 7), 0);
            due("plateFor(0, 8)", x.plateFor(0, 8), NONE);
            due("work(2)", x.work(2), 1);
            due("plateFor(0, 8)", x.plateFor(0, 8), 1);
        });
        sentence("at most one order is at work, with many plates and orders", () -> {
            TrophyPlates x = Shops.full();
            Sentence.counts(x, 0, 19, 1, 0, 0);
            due("work(20)", x.work(20), 10);
            due("count(1)", x.count(1), 0);
        });
        sentence("an order that waits for a plate begins when one is cut", () -> {
            TrophyPlates x = Shops.withOrders(1);
            due("work(600)", x.work(600), 0);
            x.cut(10, 5);
            due("work(2)", x.work(2), 1);
        });
    }

    /** An order begins on this side of this plate, and plateFound() has told it. */
    private static void begins(TrophyPlates x, String name, int size, int depth, int plate, int side, int ground) {
        Shops.write(x, name);
        Sentence.foundIs(x, size, depth, plate, side, ground);
        x.order(0, 500, size, depth, 0);
        x.work(1);
        Sentence.counts(x, 9, name.length() * (size + depth) + 10 * ground - 1, plate);
        due("work(600)", x.work(600), 1);
        due("plate(" + plate + ", " + (3 + side) + ")", x.plate(plate, 3 + side), depth);
    }

    private static void begins(TrophyPlates x, String name, int size, int depth, int plate) {
        begins(x, name, size, depth, plate, 0, 0);
    }

    private static void noneFor(TrophyPlates x, String name, int size, int depth) {
        Shops.write(x, name);
        Sentence.foundIs(x, size, depth, NONE, NONE, NONE);
        x.order(0, 500, size, depth, 0);
        due("work(600)", x.work(600), 0);
        Sentence.counts(x, 8, NONE, NONE, NONE);
    }

    /** Plates of these widths and thicknesses, both sides engraved with 1: only a new one is ready. */
    private static TrophyPlates allEngraved(int[]... plates) {
        TrophyPlates x = new TrophyPlates();
        x.addShield(2);
        for (int[] plate : plates) {
            x.cut(plate[0], plate[1]);
            Shops.engraveNext(x, 1);
            Shops.engraveNext(x, 1);
        }
        return x;
    }

    private static void plateForAnOrder() {
        Sentence.promise(12, "work");
        sentence("at least as wide as its name is long: as wide, and narrower by 1", () -> {
            begins(Shops.withPlates(14), "abc", 1, 1, 0);
            noneFor(Shops.withPlates(13), "abc", 1, 1);
            begins(Shops.withPlates(56), "abc", 4, 1, 0);
            noneFor(Shops.withPlates(55), "abc", 4, 1);
        });
        sentence("at least as wide as its name is long: the widest plate", () -> {
            begins(Shops.withPlates(200), "maaaaaaaaa", 4, 1, 0);
            noneFor(Shops.withPlates(200), "mmaaaaaaaa", 4, 1);
        });
        sentence("the least wide one, wherever it is", () -> {
            begins(Shops.withPlates(20, 19, 18), "a", 1, 1, 2);
            begins(Shops.withPlates(18, 19, 20), "a", 1, 1, 0);
            begins(Shops.withPlates(19, 18, 20), "a", 1, 1, 1);
        });
        sentence("the least wide one also if it is thicker", () -> {
            TrophyPlates x = Shops.withPlates(20);
            x.cut(21, 5);
            begins(x, "a", 1, 1, 0);
        });
        sentence("of several the thinnest one", () -> {
            TrophyPlates x = Shops.withPlate(20, 9);
            x.cut(20, 8);
            x.cut(20, 10);
            begins(x, "a", 1, 1, 1);
        });
        sentence("the thinnest one as it is: not as it was cut", () -> {
            TrophyPlates x = Shops.withPlate(20, 30);
            Shops.engraveNext(x, 5);
            due("grind(0, 0)", x.grind(0, 0), 24);
            x.cut(20, 25);
            begins(x, "a", 1, 1, 0);
        });
        sentence("the thinnest one as it is: not as it would be once ground", () -> {
            TrophyPlates x = Shops.engraved(20, 5, 5);
            x.cut(10, 19);
            Shops.engraveNext(x, 1);
            Shops.engraveNext(x, 1);
            Sentence.plateIs(x, 1, 10, 19, 0, 1, 1);
            begins(x, "a", 1, 5, 1, 0, 1);
        });
        sentence("of several the one with the lowest number", () -> {
            TrophyPlates x = Shops.withPlates(21, 20, 20, 20);
            begins(x, "a", 1, 1, 1);
            begins(Shops.withManyPlatesAndShield(), "a", 1, 1, 0);
        });
        sentence("of all plates in the drawer: no plate that is on a shield", () ->
            noneFor(Shops.onShield(2, 1), "a", 1, 1));
        sentence("of all plates in the drawer: no plate that is spoiled", () -> {
            TrophyPlates x = Shops.withPlates(10, 30);
            x.spoil(0);
            begins(x, "a", 1, 1, 1);
            TrophyPlates y = Shops.withPlates(10);
            y.spoil(0);
            noneFor(y, "a", 1, 1);
        });
        sentence("of all plates in the drawer: a plate that is taken off, with its engraving", () -> {
            TrophyPlates x = Shops.onShield(2, 1);
            x.takeOff(0, 1);
            begins(x, "a", 1, 1, 0, 1, 0);
        });
        sentence("of all 20 plates: the last one", () -> {
            TrophyPlates x = Shops.withManyPlates(19);
            x.cut(14, 5);
            x.addShield(2);
            begins(x, "abc", 1, 1, 19);
        });
    }

    private static void sideForAnOrder() {
        Sentence.promise(12, "work");
        sentence("ready if the thickness less this depth is at least 2: 2, and 1", () -> {
            begins(Shops.withPlate(10, 5), "a", 1, 3, 0);
            noneFor(Shops.withPlate(10, 5), "a", 1, 4);
            begins(Shops.withPlate(10, 7), "a", 1, 5, 0);
            noneFor(Shops.withPlate(10, 6), "a", 1, 5);
        });
        sentence("ready if it is at least 2, less the depth of the other side if that is engraved: 2, and 1", () -> {
            begins(Shops.engraved(9, 3), "a", 1, 4, 0, 1, 0);
            noneFor(Shops.engraved(8, 3), "a", 1, 4);
        });
        sentence("ready if it is at least 2, with the back engraved and the front blank: 2, and 1", () -> {
            TrophyPlates x = Shops.engraved(14, 2, 4);
            due("grind(0, 0)", x.grind(0, 0), 11);
            begins(x, "a", 1, 5, 0, 0, 0);
            TrophyPlates y = Shops.engraved(13, 2, 4);
            due("grind(0, 0)", y.grind(0, 0), 10);
            noneFor(y, "a", 1, 5);
        });
        sentence("the front, if both sides are ready", () ->
            begins(Shops.withPlates(10), "a", 1, 1, 0, 0, 0));
        sentence("the back, if the front is engraved", () ->
            begins(Shops.engraved(30, 1), "a", 1, 1, 0, 1, 0));
        sentence("the front, if the back is engraved", () -> {
            TrophyPlates x = Shops.engraved(30, 1, 1);
            x.grind(0, 0);
            begins(x, "a", 1, 1, 0, 0, 0);
        });
        sentence("a blank side that has been ground is ready again", () -> {
            TrophyPlates x = Shops.engraved(30, 5);
            x.grind(0, 0);
            begins(x, "a", 1, 5, 0, 0, 0);
        });
    }

    private static void groundAsTheOrderBegins() {
        Sentence.promise(12, "work");
        sentence("if there is none, plates with a side that can be ground: at least 2 once it is ground, and 1", () -> {
            begins(Shops.engraved(15, 3, 4), "a", 1, 5, 0, 0, 1);
            noneFor(Shops.engraved(14, 3, 4), "a", 1, 5);
        });
        sentence("can be ground if it is ready then: for the least depth", () -> {
            begins(Shops.engraved(6, 1, 1), "a", 1, 1, 0, 0, 1);
            noneFor(Shops.engraved(5, 1, 1), "a", 1, 1);
        });
        sentence("an engraved side next to a blank one that is not ready cannot be ground", () ->
            noneFor(Shops.engraved(8, 5), "a", 1, 2));
        sentence("the front, if both can: by its own depth", () -> {
            TrophyPlates x = Shops.engraved(30, 3, 5);
            Shops.give(x, "a", 0, 2, 1, 4, 0);
            x.work(1);
            Sentence.plateIs(x, 0, 10, 26, 1, 0, 5);
        });
        sentence("if there is none: a plate that is ready goes ahead, also if it is wider and thicker", () -> {
            TrophyPlates x = Shops.engraved(15, 3, 4);
            x.cut(200, 30);
            begins(x, "a", 1, 5, 1, 0, 0);
        });
        sentence("if there is none, the same is asked: as wide as the name is long, and narrower by 1", () -> {
            begins(allEngraved(new int[] {14, 30}), "abc", 1, 1, 0, 0, 1);
            noneFor(allEngraved(new int[] {13, 30}), "abc", 1, 1);
        });
        sentence("if there is none, the same is asked: the least wide one", () ->
            begins(allEngraved(new int[] {12, 20}, new int[] {10, 30}, new int[] {11, 20}), "a", 1, 1, 1, 0, 1));
        sentence("if there is none, the same is asked: of several the thinnest one", () ->
            begins(allEngraved(new int[] {10, 20}, new int[] {10, 19}, new int[] {10, 30}), "a", 1, 1, 1, 0, 1));
        sentence("if there is none, the same is asked: of several the one with the lowest number", () ->
            begins(allEngraved(new int[] {10, 20}, new int[] {10, 20}, new int[] {10, 20}), "a", 1, 1, 0, 0, 1));
        sentence("if there is none, the same is asked: of all plates in the drawer, no spoiled one", () -> {
            TrophyPlates x = allEngraved(new int[] {10, 20}, new int[] {11, 20});
            x.spoil(0);
            begins(x, "a", 1, 1, 1, 0, 1);
        });
        sentence("this side is ground as the order begins: with its first minute", () -> {
            TrophyPlates x = Shops.engraved(15, 3, 4);
            Shops.give(x, "a", 0, 2, 1, 5, 0);
            Sentence.plateIs(x, 0, 10, 15, 0, 3, 4);
            due("count(13)", x.count(13), 0);
            x.work(1);
            Sentence.plateIs(x, 0, 10, 11, 1, 0, 4);
            due("count(13)", x.count(13), 1);
        });
        sentence("the minutes that are left are the effort, and 10 more if a side is ground", () -> {
            TrophyPlates x = Shops.engraved(15, 3, 4);
            Shops.give(x, "a", 0, 2, 1, 5, 0);
            due("15 of 16 minutes", x.work(15), 0);
            due("count(9)", x.count(9), 1);
            due("the last one", x.work(1), 1);
            TrophyPlates y = Shops.engraved(15, 3);
            Shops.give(y, "a", 0, 2, 1, 5, 0);
            due("no minute more if none is ground", y.work(6), 1);
        });
    }

    private static void orderDone() {
        Sentence.promise(12, "work");
        sentence("when no minutes are left, the side is engraved with the depth of the order: not before", () -> {
            TrophyPlates x = Shops.atWork();
            x.work(4);
            Sentence.plateIs(x, 0, 20, 30, 1, 0, 0, NONE, NONE);
            x.work(1);
            Sentence.plateIs(x, 0, 20, 30, 2, 3, 0, 0, 7);
        });
        sentence("the other side stays as it is", () -> {
            TrophyPlates x = Shops.engraved(30, 2);
            Shops.give(x, "a", 0, 3, 1, 5, 0);
            x.work(600);
            Sentence.plateIs(x, 0, 10, 30, 2, 2, 5, 0, 3);
        });
        sentence("the plate is fixed on the shield for the year: the first and the last shield and year", () -> {
            TrophyPlates x = Shops.withPlates(10, 10);
            x.addShield(2);
            x.addShield(2);
            Shops.giveSmall(x, 0, 1);
            Shops.giveSmall(x, 2, 999);
            due("work(4)", x.work(4), 2);
            due("plateFor(0, 1)", x.plateFor(0, 1), 0);
            due("plateFor(2, 999)", x.plateFor(2, 999), 1);
            due("plateFor(1, 999)", x.plateFor(1, 999), NONE);
        });
        sentence("the order is done: it is removed from the row, wherever it stands", () -> {
            TrophyPlates x = Shops.withPlates(10);
            Shops.give(x, "mmmm", 0, 1, 4, 1, 0);
            Shops.give(x, "ab", 0, 2, 1, 1, 0);
            Shops.give(x, "mmmmm", 0, 3, 4, 1, 1);
            due("work(600)", x.work(600), 1);
            Sentence.rowIs(x, 3, 1);
            Sentence.nameIs(x, 0, "mmmmm");
            Sentence.nameIs(x, 1, "mmmm");
        });
        sentence("the order is done: nothing is at work then, if no minute is left", () -> {
            TrophyPlates x = Shops.atWork();
            due("work(5)", x.work(5), 1);
            Sentence.counts(x, 6, 0, 0, NONE, NONE, NONE, 1);
            due("slip()", x.slip(), ILLEGAL);
        });
    }

    private static void fullShields() {
        Sentence.promise(12, "work");
        sentence("if as many plates as there are places are on the shield already: from 2 to 6 places", () -> {
            for (int places = 2; places <= 6; places++) {
                TrophyPlates x = Shops.onShield(places, places);
                Sentence.shieldIs(x, 0, places, places, 1, places, 0);
                TrophyPlates y = Shops.onShield(places, places + 1);
                Sentence.shieldIs(y, 0, places, places, 2, places + 1, 0);
                due("plateFor(0, 1)", y.plateFor(0, 1), NONE);
            }
        });
        sentence("that of the earliest year comes into the drawer: not the one that was fixed first", () -> {
            TrophyPlates x = withYears(2, 9, 5, 7);
            due("plateFor(0, 5)", x.plateFor(0, 5), NONE);
            due("plateFor(0, 9)", x.plateFor(0, 9), 0);
            due("plateFor(0, 7)", x.plateFor(0, 7), 2);
            due("plate(1, 2)", x.plate(1, 2), 0);
        });
        sentence("of all, the new one too, so that it may be the new plate itself", () -> {
            TrophyPlates x = withYears(2, 9, 5, 4);
            due("plateFor(0, 4)", x.plateFor(0, 4), NONE);
            Sentence.shieldIs(x, 0, 2, 2, 5, 9, 3);
            Sentence.plateIs(x, 2, 10, 30, 0, 1, 0, NONE, NONE);
            due("the order is done all the same", x.count(11), 3);
            due("and removed", x.count(6), 0);
        });
        sentence("the new one stays if it is later than the earliest by a year", () -> {
            TrophyPlates x = withYears(2, 9, 5, 6);
            due("plateFor(0, 6)", x.plateFor(0, 6), 2);
            due("plateFor(0, 5)", x.plateFor(0, 5), NONE);
        });
        sentence("its engraving stays, and it is on no shield", () -> {
            TrophyPlates x = withYears(2, 1, 2, 3);
            Sentence.plateIs(x, 0, 10, 30, 0, 1, 0, NONE, NONE);
        });
        sentence("the plates of other shields are not counted, nor are they the earliest", () -> {
            TrophyPlates x = withYears(2, 8, 9);
            x.addShield(2);
            x.cut(10, 30);
            Shops.giveSmall(x, 1, 1);
            due("work(600)", x.work(600), 1);
            x.cut(10, 30);
            Shops.giveSmall(x, 0, 7);
            due("work(600)", x.work(600), 1);
            due("plateFor(1, 1)", x.plateFor(1, 1), 2);
            due("the year 7 is the earliest of its shield", x.plateFor(0, 7), NONE);
        });
        sentence("a plate that comes back is used by the next order, with the same call", () -> {
            TrophyPlates x = withYears(2, 1, 2);
            x.cut(10, 30);
            Shops.giveSmall(x, 0, 3);
            Shops.giveSmall(x, 0, 4);
            due("work(4)", x.work(4), 2);
            due("plateFor(0, 4)", x.plateFor(0, 4), 0);
            Sentence.plateIs(x, 0, 10, 30, 2, 1, 1, 0, 4);
            Sentence.plateIs(x, 1, 10, 30, 0, 1, 0, NONE, NONE);
        });
    }

    /** A shield of places, and a new plate for each year, in this order. */
    private static TrophyPlates withYears(int places, int... years) {
        TrophyPlates x = new TrophyPlates();
        x.addShield(places);
        for (int year : years) {
            x.cut(10, 30);
            Shops.giveSmall(x, 0, year);
            x.work(600);
        }
        return x;
    }

    /** An order of one letter with the depth, begun on the only plate. */
    private static TrophyPlates begun(TrophyPlates x, int depth) {
        Shops.give(x, "a", 0, 2, 1, depth, 0);
        x.work(1);
        return x;
    }

    private static void slip() {
        Sentence.promise(13, "slip");
        sentence("ILLEGAL_STATE if no order is at work: there is none", () -> {
            due("slip() of a new object", new TrophyPlates().slip(), ILLEGAL);
            Sentence.refused("slip()", () -> Shops.withPlates(20), TrophyPlates::slip, ILLEGAL);
        });
        sentence("ILLEGAL_STATE if no order is at work: none has begun", () ->
            Sentence.refused("slip()", WorkEdges::withTenToDo, TrophyPlates::slip, ILLEGAL));
        sentence("ILLEGAL_STATE if no order is at work: none could begin", () ->
            Sentence.refused("slip()", () -> {
                TrophyPlates x = Shops.withOrders(2);
                x.work(600);
                return x;
            }, TrophyPlates::slip, ILLEGAL));
        sentence("ILLEGAL_STATE if no order is at work: it is done", () ->
            Sentence.refused("slip()", () -> {
                TrophyPlates x = withTenToDo();
                x.work(2);
                return x;
            }, TrophyPlates::slip, ILLEGAL));
        sentence("ILLEGAL_STATE if no order is at work: its plate was spoiled by a slip", () ->
            Sentence.refused("slip()", () -> {
                TrophyPlates x = begun(Shops.withPlate(10, 5), 3);
                x.slip();
                return x;
            }, TrophyPlates::slip, ILLEGAL));
        sentence("ILLEGAL_STATE if no order is at work: its beginning is undone", () ->
            Sentence.refused("slip()", () -> {
                TrophyPlates x = begun(Shops.withPlates(10), 3);
                x.undo();
                return x;
            }, TrophyPlates::slip, ILLEGAL));
        sentence("this is an action: it is recorded, and undone with the side at work", () -> {
            TrophyPlates x = Shops.atWork();
            x.slip();
            due("count(14)", x.count(14), 5);
            due("undo()", x.undo(), 4);
            Sentence.counts(x, 8, 0, 5, 0, 0, 0);
            Sentence.plateIs(x, 0, 20, 30, 1, 0, 0);
            due("work(5)", x.work(5), 1);
            Sentence.plateIs(x, 0, 20, 30, 2, 3, 0);
        });
    }

    private static void slipTurns() {
        Sentence.promise(13, "slip");
        sentence("1 if the plate is turned: if the other side is ready, the misspelt one being engraved:"
            + " at least 2, and 1", () -> {
                due("6 - 2 - 2 is 2", begun(Shops.withPlate(10, 6), 2).slip(), 1);
                due("5 - 2 - 2 is 1", begun(Shops.withPlate(10, 5), 2).slip(), 3);
                due("12 - 5 - 5 is 2", begun(Shops.withPlate(10, 12), 5).slip(), 1);
                due("11 - 5 - 5 is 1", begun(Shops.withPlate(10, 11), 5).slip(), 3);
                due("30 - 5 - 5 is 20", begun(Shops.withPlate(10, 30), 5).slip(), 1);
            });
        sentence("its side is engraved with the depth of the order, and the order goes on on the other side", () -> {
            TrophyPlates x = begun(Shops.withPlate(10, 12), 5);
            due("slip()", x.slip(), 1);
            Sentence.plateIs(x, 0, 10, 12, 1, 5, 0, NONE, NONE);
            x.work(600);
            Sentence.plateIs(x, 0, 10, 12, 2, 5, 5, 0, 2);
        });
        sentence("it is not turned if the other side is engraved: neither the front nor the back", () -> {
            due("on the back", begun(Shops.engraved(30, 1), 2).slip(), 2);
            TrophyPlates x = Shops.engraved(30, 1, 4);
            x.grind(0, 0);
            due("on the front", begun(x, 2).slip(), 2);
        });
        sentence("its whole effort is left, nothing more: whatever was left before", () -> {
            TrophyPlates x = Shops.withPlates(20);
            Shops.give(x, "abc", 0, 7, 1, 3, 0);
            x.work(11);
            due("slip() with 1 minute left", x.slip(), 1);
            Sentence.counts(x, 8, 0, 12, 0);
            TrophyPlates y = Shops.withPlates(20);
            Shops.give(y, "abc", 0, 7, 1, 3, 0);
            y.work(1);
            due("slip() with 11 minutes left", y.slip(), 1);
            Sentence.counts(y, 8, 0, 12, 0);
        });
        sentence("the slip is counted, and no side ground", () -> {
            TrophyPlates x = Shops.atWork();
            x.slip();
            Sentence.counts(x, 11, 0, 1, 0);
        });
        sentence("of an order that is not the first in the row", () -> {
            TrophyPlates x = Shops.busy();
            due("12 - 2 - 2 is 8", x.slip(), 1);
            Sentence.counts(x, 8, 1, 12, 1);
            Sentence.plateIs(x, 1, 40, 12, 1, 2, 0);
            Sentence.rowIs(x, 7, 20, 5);
        });
    }

    private static void slipGrinds() {
        Sentence.promise(13, "slip");
        sentence("2 if it is ground: otherwise, if the misspelt side can be ground: at least 2, and 1", () -> {
            due("10 - 2 - 1 - 3 - 2 is 2", begun(Shops.engraved(10, 3), 2).slip(), 2);
            due("9 - 2 - 1 - 3 - 2 is 1", begun(Shops.engraved(9, 3), 2).slip(), 3);
            due("18 - 5 - 1 - 5 - 5 is 2", begun(Shops.engraved(18, 5), 5).slip(), 2);
            due("17 - 5 - 1 - 5 - 5 is 1", begun(Shops.engraved(17, 5), 5).slip(), 3);
        });
        sentence("it is ground: its thickness is less by the depth and by 1, and it is blank", () -> {
            TrophyPlates x = begun(Shops.engraved(10, 3), 2);
            due("slip()", x.slip(), 2);
            Sentence.plateIs(x, 0, 10, 7, 1, 3, 0, NONE, NONE);
            Sentence.counts(x, 12, 1, 1);
        });
        sentence("the order goes on there, and its whole effort and 10 minutes are left", () -> {
            TrophyPlates x = begun(Shops.engraved(10, 3), 2);
            x.slip();
            Sentence.counts(x, 8, 0, 13, 0);
            due("work(12)", x.work(12), 0);
            due("work(1)", x.work(1), 1);
            Sentence.plateIs(x, 0, 10, 7, 2, 3, 2, 0, 2);
        });
        sentence("the front is ground if it is the misspelt one, and the back stays", () -> {
            TrophyPlates x = Shops.engraved(30, 1, 4);
            x.grind(0, 0);
            due("slip()", begun(x, 2).slip(), 2);
            Sentence.plateIs(x, 0, 10, 25, 1, 0, 4);
            x.work(600);
            Sentence.plateIs(x, 0, 10, 25, 2, 2, 4);
        });
        sentence("an order that has begun with a side ground: its effort and 10 minutes once more", () -> {
            TrophyPlates x = begun(Shops.engraved(30, 3, 4), 5);
            Sentence.counts(x, 9, 15);
            due("slip()", x.slip(), 2);
            Sentence.counts(x, 9, 16);
            Sentence.counts(x, 12, 1, 2);
            Sentence.plateIs(x, 0, 10, 20, 1, 0, 4);
        });
        sentence("one slip behind the other: turned once, ground 13 times, spoiled at last", () -> {
            TrophyPlates x = begun(Shops.withPlates(10), 1);
            due("turned", x.slip(), 1);
            for (int thickness = 28; thickness >= 4; thickness -= 2) {
                due("ground", x.slip(), 2);
                due("plate(0, 1)", x.plate(0, 1), thickness);
            }
            due("4 - 1 - 1 - 1 - 1 is 0", x.slip(), 3);
            Sentence.counts(x, 12, 15, 13);
            Sentence.plateIs(x, 0, 10, 4, 3, 1, 1);
        });
    }

    private static void slipSpoils() {
        Sentence.promise(13, "slip");
        sentence("3 if it is spoiled: otherwise the plate is spoiled, its side engraved", () -> {
            TrophyPlates x = begun(Shops.withPlate(10, 5), 3);
            due("slip()", x.slip(), 3);
            Sentence.plateIs(x, 0, 10, 5, 3, 3, 0, NONE, NONE);
            Sentence.counts(x, 0, 0, 0, 0, 1);
            TrophyPlates y = begun(Shops.engraved(9, 3), 2);
            due("slip()", y.slip(), 3);
            Sentence.plateIs(y, 0, 10, 9, 3, 3, 2, NONE, NONE);
        });
        sentence("and the order is not at work any more: it stays in the row, in its place", () -> {
            TrophyPlates x = Shops.withPlate(10, 5);
            Shops.give(x, "mmm", 0, 1, 1, 1, 0);
            begun(x, 3);
            Shops.give(x, "b", 0, 3, 1, 1, 0);
            due("slip()", x.slip(), 3);
            Sentence.counts(x, 8, NONE, NONE, NONE, 0, 1, 0);
            Sentence.rowIs(x, 1, 2, 3);
        });
        sentence("and the order begins again on another plate, with its whole effort", () -> {
            TrophyPlates x = begun(Shops.withPlate(10, 5), 3);
            x.slip();
            due("no plate is left", x.work(600), 0);
            due("doneIn(0)", x.doneIn(0), NONE);
            x.cut(11, 5);
            due("work(1)", x.work(1), 0);
            Sentence.counts(x, 8, 0, 3, 1);
        });
        sentence("this is an action: undo() has the plate and the order at work again", () -> {
            TrophyPlates x = begun(Shops.withPlate(10, 5), 3);
            x.slip();
            due("undo()", x.undo(), 4);
            Sentence.counts(x, 8, 0, 3, 0, 0, 0);
            Sentence.plateIs(x, 0, 10, 5, 1, 0, 0);
        });
    }

    private static void undo() {
        Sentence.promise(14, "undo");
        sentence("ILLEGAL_STATE if it is empty: of a new object", () ->
            Sentence.refused("undo()", TrophyPlates::new, TrophyPlates::undo, ILLEGAL));
        sentence("ILLEGAL_STATE if it is empty: a text is no state", () ->
            Sentence.refused("undo()", () -> {
                TrophyPlates x = new TrophyPlates();
                Shops.write(x, "abc");
                return x;
            }, TrophyPlates::undo, ILLEGAL));
        sentence("ILLEGAL_STATE if it is empty: all five states are restored", () ->
            Sentence.refused("undo()", () -> {
                TrophyPlates x = Shops.withManyPlates(5);
                for (int left = 4; left >= 0; left--) {
                    x.undo();
                }
                return x;
            }, TrophyPlates::undo, ILLEGAL));
        sentence("returns the number of states that are left in the history: from 4 to 0", () -> {
            TrophyPlates x = Shops.withManyPlates(5);
            for (int left = 4; left >= 0; left--) {
                due("undo()", x.undo(), left);
                due("count(14)", x.count(14), left);
                due("count(4)", x.count(4), left);
            }
            due("undo()", x.undo(), ILLEGAL);
        });
        sentence("at most 5 states are kept: the fifth leaves the oldest one", () -> {
            TrophyPlates x = Shops.withManyPlates(5);
            due("count(14)", x.count(14), 5);
            undoAll(x, 5);
            due("count(4)", x.count(4), 0);
        });
        sentence("when a sixth one is recorded, the oldest one is dropped", () -> {
            TrophyPlates x = Shops.withManyPlates(6);
            due("count(14)", x.count(14), 5);
            undoAll(x, 5);
            due("count(4)", x.count(4), 1);
            due("undo()", x.undo(), ILLEGAL);
        });
        sentence("the oldest one is dropped for each that is recorded: up to 20 and more of them", () -> {
            for (int plates = 7; plates <= 20; plates++) {
                TrophyPlates x = Shops.withManyPlates(plates);
                undoAll(x, 5);
                due("count(4) of " + plates, x.count(4), plates - 5);
            }
            TrophyPlates y = Shops.withManyPlates(1);
            for (int action = 0; action < 100; action++) {
                due("work(1)", y.work(1), 0);
            }
            undoAll(y, 5);
            due("undo()", y.undo(), ILLEGAL);
            due("count(4)", y.count(4), 1);
        });
        sentence("undo() is no action: the states before it are restored next", () -> {
            TrophyPlates x = Shops.withManyPlates(6);
            due("undo()", x.undo(), 4);
            due("undo()", x.undo(), 3);
            x.cut(20, 5);
            due("count(14)", x.count(14), 4);
            due("undo()", x.undo(), 3);
            due("count(4)", x.count(4), 4);
            due("undo()", x.undo(), 2);
            due("count(4)", x.count(4), 3);
        });
        sentence("a call that returns an error code records nothing", () -> {
            TrophyPlates x = Shops.withPlates(10);
            due("cut", x.cut(9, 5), INVALID);
            due("spoil", x.spoil(1), INVALID);
            due("grind", x.grind(0, 0), ILLEGAL);
            due("addShield", x.addShield(7), INVALID);
            due("takeOff", x.takeOff(0, 1), ILLEGAL);
            due("order", x.order(0, 1, 1, 1, 0), ILLEGAL);
            due("hurry", x.hurry(0), INVALID);
            due("cancel", x.cancel(0), INVALID);
            due("work", x.work(0), INVALID);
            due("slip", x.slip(), ILLEGAL);
            due("count(14)", x.count(14), 2);
        });
        sentence("an object is used for at most 512 calls: the 512th one is answered as it is due", () -> {
            TrophyPlates x = new TrophyPlates();
            for (int call = 1; call <= 511; call++) {
                due("call " + call, call % 2 == 0 ? x.work(600) : x.append('a'), call % 2 == 0 ? 0
                    : call <= 23 ? call / 2 + 1 : Sentence.FULL);
            }
            due("call 512", x.undo(), 4);
        });
    }

    private static void undoAll(TrophyPlates x, int states) {
        for (int left = states - 1; left >= 0; left--) {
            due("undo()", x.undo(), left);
        }
    }

    private static void undoRestores() {
        Sentence.promise(14, "undo");
        sentence("a state is everything: plates, shields, orders, the order at work and what is counted", () -> {
            TrophyPlates x = Shops.busy();
            x.slip();
            due("undo()", x.undo(), 4);
            Sentence.counts(x, 0, 2, 1, 1, 1, 5, 2, 3, 1, 1, 7, 1, 1, 0, 0, 4, 2);
            Sentence.plateIs(x, 0, 20, 12, 2, 3, 0, 0, 10);
            Sentence.plateIs(x, 1, 40, 12, 1, 0, 0, NONE, NONE);
            Sentence.shieldIs(x, 0, 2, 1, 10, 10, 0);
            Sentence.rowIs(x, 7, 20, 5);
            Sentence.nameIs(x, 1, "bob");
        });
        sentence("a state is everything: of each order all that it has, wherever it stands", () -> {
            TrophyPlates x = Shops.waiting();
            x.cancel(0);
            Shops.give(x, "cyril", 1, 40, 1, 1, 0);
            due("undo()", x.undo(), 4);
            due("undo()", x.undo(), 3);
            int[][] wanted = {{1, 20, 3, 2, 1, 3, 42, 15}, {0, 30, 4, 5, 0, 2, 36, 18}};
            for (int order = 0; order < 2; order++) {
                for (int what = 0; what < 8; what++) {
                    due("orderOf(" + order + ", " + what + ")", x.orderOf(order, what), wanted[order][what]);
                }
            }
            Sentence.nameIs(x, 0, "ann");
            Sentence.nameIs(x, 1, "bo");
            due("work(600)", x.work(600), 2);
            due("plateFor(1, 20)", x.plateFor(1, 20), 0);
            due("plateFor(0, 30)", x.plateFor(0, 30), 1);
        });
        sentence("a state is everything: of each action the number that it counts", () -> {
            TrophyPlates x = Shops.engraved(30, 1, 1);
            due("grind", x.grind(0, 0), 28);
            Shops.give(x, "a", 0, 2, 1, 1, 0);
            x.work(2);
            Sentence.counts(x, 11, 3, 0, 1);
            x.undo();
            Sentence.counts(x, 11, 2, 0, 1);
            x.undo();
            x.undo();
            Sentence.counts(x, 11, 2, 0, 0);
        });
        sentence("everything but the text: neither a longer nor an empty one is taken back", () -> {
            TrophyPlates x = Shops.withPlates(10);
            Shops.write(x, "abc");
            x.undo();
            due("count(15)", x.count(15), 3);
            x.clearText();
            x.undo();
            due("count(15)", x.count(15), 0);
        });
        sentence("a full shop is restored: 20 plates, 3 shields, 10 orders", () -> {
            TrophyPlates x = Shops.full();
            due("work(600)", x.work(600), 10);
            due("undo()", x.undo(), 4);
            Sentence.counts(x, 0, 19, 1, 0, 0, 20, 3, 10, 0, 0, 1, 0, 0);
            Sentence.rowIs(x, 1, 2, 3, 4, 5, 6, 7, 8, 9, 10);
            due("work(19)", x.work(19), 10);
        });
        sentence("a restored state is no other state's: what is done on it leaves the older ones", () -> {
            TrophyPlates x = Shops.withPlates(10, 20);
            Shops.give(x, "ab", 0, 1, 1, 2, 0);
            x.work(1);
            x.undo();
            x.cancel(0);
            x.spoil(0);
            x.undo();
            x.undo();
            Sentence.nameIs(x, 0, "ab");
            due("plate(0, 2)", x.plate(0, 2), 0);
            x.undo();
            due("count(6)", x.count(6), 0);
            due("undo()", x.undo(), 1);
            due("count(4)", x.count(4), 1);
        });
    }
}

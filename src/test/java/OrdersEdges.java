/** The sentences of promises 7 to 11 that name a boundary case. */
public final class OrdersEdges {
    private static final int INVALID = Sentence.INVALID;
    private static final int ILLEGAL = Sentence.ILLEGAL;
    private static final int FULL = Sentence.FULL;
    private static final int NONE = Sentence.NONE;

    public static void main(String[] args) {
        Sentence.begin(args);
        append();
        clearText();
        orderArguments();
        orderName();
        orderRow();
        orderOfAYear();
        orderErrors();
        hurry();
        hurryInTheRow();
        cancel();
        cancelAtWork();
        Sentence.end();
    }

    private static void sentence(String words, Runnable test) {
        Sentence.sentence(words, test);
    }

    private static void due(String call, int got, int want) {
        Sentence.due(call, got, want);
    }

    private static TrophyPlates withText(String text) {
        TrophyPlates x = Shops.withPlates(200);
        Shops.write(x, text);
        return x;
    }

    private static void append() {
        Sentence.promise(7, "append");
        sentence("letter: 97 for a, to 122 for z: the first and the last one", () -> {
            TrophyPlates x = Shops.withPlates();
            due("append(97)", x.append(97), 1);
            due("append(122)", x.append(122), 2);
            x.order(0, 1, 1, 1, 0);
            Sentence.nameIs(x, 0, "az");
        });
        sentence("letter: 97 to 122: 96, 123 and the ends of int are refused with INVALID_ARGUMENT", () ->
            Sentence.outside("append(letter)", 97, 122, Shops::busy, TrophyPlates::append));
        sentence("letter: 97 to 122: no capital letter, no 0, and none that is one again as a byte or char", () -> {
            for (int letter : new int[] {'A', 'Z', 0, 97 + 256, 97 + 65536, 97 - 256}) {
                Sentence.refused("append(" + letter + ")", Shops::busy, x -> x.append(letter), INVALID);
            }
        });
        sentence("returns the new length of the text: from 1 to 12", () -> {
            TrophyPlates x = new TrophyPlates();
            for (int length = 1; length <= 12; length++) {
                due("append('a')", x.append('a'), length);
                due("count(15)", x.count(15), length);
            }
        });
        sentence("CAPACITY_EXCEEDED if the text already has 12 letters: the 12th is appended, the 13th refused", () -> {
            due("the 12th", withText("abcdefghijk").append('l'), 12);
            Sentence.refused("the 13th", () -> withText("abcdefghijkl"), x -> x.append('m'), FULL);
            Sentence.refused("the 13th in a full shop", Shops::full, x -> x.append('z'), FULL);
        });
        sentence("INVALID_ARGUMENT ahead of CAPACITY_EXCEEDED", () -> {
            Sentence.refused("a 13th that is 96", Shops::full, x -> x.append(96), INVALID);
            Sentence.refused("a 13th that is 123", Shops::full, x -> x.append(123), INVALID);
        });
        sentence("the text is empty and takes 12 letters again behind clearText() and behind order()", () -> {
            TrophyPlates x = withText("abcdefghijkl");
            x.clearText();
            Shops.write(x, "mnopqrstuvw");
            due("the 12th", x.append('x'), 12);
            x.order(0, 1, 1, 1, 0);
            Sentence.nameIs(x, 0, "mnopqrstuvwx");
            Shops.write(x, "yzabcdefghi");
            due("the 12th", x.append('j'), 12);
            due("the 13th", x.append('k'), FULL);
        });
        sentence("it is no action: nothing is recorded, and undo() leaves the text", () -> {
            TrophyPlates x = new TrophyPlates();
            x.append('a');
            due("count(14)", x.count(14), 0);
            due("undo()", x.undo(), ILLEGAL);
            x.cut(10, 5);
            x.append('b');
            due("undo()", x.undo(), 0);
            due("count(15)", x.count(15), 2);
        });
    }

    private static void clearText() {
        Sentence.promise(8, "clearText");
        sentence("returns the previous length of the text: 0, 1 and 12", () -> {
            TrophyPlates x = new TrophyPlates();
            due("empty", x.clearText(), 0);
            x.append('a');
            due("one letter", x.clearText(), 1);
            Shops.write(x, "abcdefghijkl");
            due("twelve letters", x.clearText(), 12);
        });
        sentence("makes the text empty", () -> {
            TrophyPlates x = withText("abcdefghijkl");
            x.clearText();
            due("count(15)", x.count(15), 0);
            due("lengthOf(1)", x.lengthOf(1), 0);
            due("clearText()", x.clearText(), 0);
            due("order(0, 1, 1, 1, 0)", x.order(0, 1, 1, 1, 0), ILLEGAL);
        });
        sentence("of an empty text it changes nothing", () ->
            Sentence.changesNothing("clearText()", () -> withText(""), TrophyPlates::clearText, 0));
        sentence("it is no action: nothing is recorded, and undo() leaves the text empty", () -> {
            TrophyPlates x = withText("ab");
            x.clearText();
            due("count(14)", x.count(14), 2);
            due("undo()", x.undo(), 1);
            due("count(15)", x.count(15), 0);
        });
        sentence("the names in the row stay", () -> {
            TrophyPlates x = Shops.busy();
            due("clearText()", x.clearText(), 2);
            Sentence.nameIs(x, 0, "di");
        });
    }

    private static void orderArguments() {
        Sentence.promise(9, "order");
        sentence("shield: the first and the last one", () -> {
            TrophyPlates x = new TrophyPlates();
            for (int shield = 0; shield < 3; shield++) {
                x.addShield(2);
            }
            due("shield 0", Shops.giveSmall(x, 0, 1), 0);
            due("shield 2", Shops.giveSmall(x, 2, 1), 1);
            due("orderOf(0, 0)", x.orderOf(0, 0), 0);
            due("orderOf(1, 0)", x.orderOf(1, 0), 2);
        });
        sentence("shield: INVALID_ARGUMENT below 0, and as many as there are", () -> {
            Sentence.outside("order(shield, 50, 1, 1, 0)", 0, 1, Shops::busy, (x, a) -> x.order(a, 50, 1, 1, 0));
            Sentence.outside("order(shield, 50, 1, 1, 0)", 0, 2, Shops::full, (x, a) -> x.order(a, 50, 1, 1, 0));
        });
        sentence("shield: INVALID_ARGUMENT if there is none", () ->
            Sentence.refused("order(0, 1, 1, 1, 0)", () -> {
                TrophyPlates x = Shops.withManyPlates(1);
                x.append('a');
                return x;
            }, x -> x.order(0, 1, 1, 1, 0), INVALID));
        sentence("year: 1 to 999: the first and the last one", () -> {
            due("year 1", withText("a").order(0, 1, 1, 1, 0), 0);
            due("year 999", withText("a").order(0, 999, 1, 1, 0), 0);
        });
        sentence("year: 1 to 999: 0, 1000 and the ends of int are refused with INVALID_ARGUMENT", () ->
            Sentence.outside("order(0, year, 1, 1, 0)", 1, 999, Shops::busy, (x, a) -> x.order(0, a, 1, 1, 0)));
        sentence("size: 1 to 4: the least and the most", () -> {
            TrophyPlates x = Shops.withPlates();
            due("size 1", Shops.give(x, "a", 0, 1, 1, 1, 0), 0);
            due("size 4", Shops.give(x, "a", 0, 2, 4, 1, 0), 1);
            due("orderOf(0, 2)", x.orderOf(0, 2), 1);
            due("orderOf(1, 2)", x.orderOf(1, 2), 4);
        });
        sentence("size: 1 to 4: 0, 5 and the ends of int are refused with INVALID_ARGUMENT", () ->
            Sentence.outside("order(0, 50, size, 1, 0)", 1, 4, Shops::busy, (x, a) -> x.order(0, 50, a, 1, 0)));
        sentence("depth: 1 to 5: the least and the most", () -> {
            TrophyPlates x = Shops.withPlates();
            due("depth 1", Shops.give(x, "a", 0, 1, 1, 1, 0), 0);
            due("depth 5", Shops.give(x, "a", 0, 2, 1, 5, 0), 1);
            due("orderOf(0, 3)", x.orderOf(0, 3), 1);
            due("orderOf(1, 3)", x.orderOf(1, 3), 5);
        });
        sentence("depth: 1 to 5: 0, 6 and the ends of int are refused with INVALID_ARGUMENT", () ->
            Sentence.outside("order(0, 50, 1, depth, 0)", 1, 5, Shops::busy, (x, a) -> x.order(0, 50, 1, a, 0)));
        sentence("rush: 1 for a rush, otherwise 0: both", () -> {
            TrophyPlates x = Shops.withPlates();
            due("rush 0", Shops.give(x, "a", 0, 1, 1, 1, 0), 0);
            due("rush 1", Shops.give(x, "a", 0, 2, 1, 1, 1), 0);
            due("orderOf(0, 4)", x.orderOf(0, 4), 1);
            due("orderOf(1, 4)", x.orderOf(1, 4), 0);
        });
        sentence("rush: 1 for a rush, otherwise 0: -1, 2 and the ends of int are refused with INVALID_ARGUMENT", () ->
            Sentence.outside("order(0, 50, 1, 1, rush)", 0, 1, Shops::busy, (x, a) -> x.order(0, 50, 1, 1, a)));
    }

    private static void orderName() {
        Sentence.promise(9, "order");
        sentence("the text as its name: of 1 letter, the least that a name has", () -> {
            TrophyPlates x = withText("q");
            due("order", x.order(0, 1, 1, 1, 0), 0);
            Sentence.nameIs(x, 0, "q");
        });
        sentence("the text as its name: of 12 letters, the most that a name has", () -> {
            TrophyPlates x = withText("abcdefghijkl");
            due("order", x.order(0, 1, 1, 1, 0), 0);
            Sentence.nameIs(x, 0, "abcdefghijkl");
        });
        sentence("the text becomes empty", () -> {
            TrophyPlates x = withText("abcdefghijkl");
            x.order(0, 1, 1, 1, 0);
            due("count(15)", x.count(15), 0);
            due("lengthOf(1)", x.lengthOf(1), 0);
            due("order(0, 2, 1, 1, 0)", x.order(0, 2, 1, 1, 0), ILLEGAL);
        });
        sentence("the name stays, whatever is written into the text", () -> {
            TrophyPlates x = withText("abc");
            x.order(0, 1, 1, 1, 0);
            Shops.write(x, "zyxwv");
            Sentence.nameIs(x, 0, "abc");
        });
        sentence("this is an action: undo() takes the order away, and the text stays empty", () -> {
            TrophyPlates x = withText("abc");
            x.order(0, 1, 1, 1, 0);
            due("count(14)", x.count(14), 3);
            due("undo()", x.undo(), 2);
            due("count(6)", x.count(6), 0);
            due("count(15)", x.count(15), 0);
        });
        sentence("this is an action: undo() leaves the text that has been written behind it", () -> {
            TrophyPlates x = withText("abc");
            x.order(0, 1, 1, 1, 0);
            Shops.write(x, "xy");
            x.undo();
            due("count(15)", x.count(15), 2);
            due("order", x.order(0, 1, 1, 1, 0), 0);
            Sentence.nameIs(x, 0, "xy");
        });
    }

    private static void orderRow() {
        Sentence.promise(9, "order");
        sentence("returns its number in the row: from 0 to 9, each behind all others", () -> {
            TrophyPlates x = Shops.withPlates();
            for (int order = 0; order < 10; order++) {
                due("the year " + (20 - order), Shops.giveSmall(x, 0, 20 - order), order);
            }
            Sentence.rowIs(x, 20, 19, 18, 17, 16, 15, 14, 13, 12, 11);
        });
        sentence("all rushes ahead of all others: a rush is 0 if there is none, also as the tenth order", () -> {
            TrophyPlates x = Shops.withOrders(9);
            due("the tenth", Shops.give(x, "a", 0, 99, 1, 1, 1), 0);
            Sentence.rowIs(x, 99, 1, 2, 3, 4, 5, 6, 7, 8, 9);
        });
        sentence("both in the order in which they were given: a rush is behind all rushes, from 0 to 9", () -> {
            TrophyPlates x = Shops.withPlates();
            for (int order = 0; order < 10; order++) {
                due("a rush", Shops.give(x, "a", 0, 20 - order, 1, 1, 1), order);
            }
            Sentence.rowIs(x, 20, 19, 18, 17, 16, 15, 14, 13, 12, 11);
        });
        sentence("both in the order in which they were given: mixed", () -> {
            TrophyPlates x = Shops.withPlates();
            due("the year 1", Shops.give(x, "a", 0, 1, 1, 1, 0), 0);
            due("the year 2, a rush", Shops.give(x, "a", 0, 2, 1, 1, 1), 0);
            due("the year 3", Shops.give(x, "a", 0, 3, 1, 1, 0), 2);
            due("the year 4, a rush", Shops.give(x, "a", 0, 4, 1, 1, 1), 1);
            due("the year 5", Shops.give(x, "a", 0, 5, 1, 1, 0), 4);
            Sentence.rowIs(x, 2, 4, 1, 3, 5);
        });
        sentence("the order at work stays at work also if a rush is given", () -> {
            TrophyPlates x = Shops.atWork();
            due("a rush", Shops.give(x, "a", 0, 8, 1, 1, 1), 0);
            Sentence.counts(x, 8, 1, 5, 0);
            due("the next number of it", Shops.give(x, "a", 0, 9, 1, 1, 1), 1);
            Sentence.counts(x, 8, 2, 5, 0);
            due("not of another one", Shops.give(x, "a", 0, 10, 1, 1, 0), 3);
            Sentence.counts(x, 8, 2, 5, 0);
        });
        sentence("the order at work stays at work also if a rush is given: when it is not the first in the row", () -> {
            TrophyPlates x = Shops.secondAtWork();
            due("a rush", Shops.give(x, "a", 0, 8, 1, 1, 1), 0);
            Sentence.rowIs(x, 8, 1, 2, 3);
            Sentence.counts(x, 8, 2, 3, 0);
        });
        sentence("a rush behind the rush at work leaves it its number", () -> {
            TrophyPlates x = Shops.withPlates(20);
            Shops.give(x, "ab", 0, 1, 1, 1, 1);
            x.work(1);
            due("a rush", Shops.give(x, "a", 0, 2, 1, 1, 1), 1);
            Sentence.counts(x, 8, 0, 3, 0);
        });
    }

    private static void orderOfAYear() {
        Sentence.promise(9, "order");
        sentence("ILLEGAL_STATE if the shield has a plate for this year", () -> {
            Sentence.refused("the year 10", Shops::busy, x -> x.order(0, 10, 1, 1, 0), ILLEGAL);
            due("the year before", Shops.busy().order(0, 9, 1, 1, 0), 3);
            due("the year behind", Shops.busy().order(0, 11, 1, 1, 0), 3);
            due("on another shield", Shops.busy().order(1, 10, 1, 1, 0), 3);
        });
        sentence("ILLEGAL_STATE if the shield has an order for this year", () -> {
            Sentence.refused("the year 5", Shops::busy, x -> x.order(1, 5, 1, 1, 0), ILLEGAL);
            Sentence.refused("the year 7 of a rush", Shops::busy, x -> x.order(1, 7, 1, 1, 1), ILLEGAL);
            due("the year between", Shops.busy().order(1, 6, 1, 1, 0), 3);
            due("on another shield", Shops.busy().order(0, 5, 1, 1, 0), 3);
        });
        sentence("ILLEGAL_STATE if the shield has an order for this year: the one at work", () -> {
            Sentence.refused("the year 20", Shops::busy, x -> x.order(0, 20, 1, 1, 0), ILLEGAL);
            due("on another shield", Shops.busy().order(1, 20, 1, 1, 0), 3);
        });
        sentence("a year whose plate is taken off, or comes off a full shield, can be ordered", () -> {
            TrophyPlates x = Shops.onShield(2, 3);
            due("the year 1 that came off", Shops.giveSmall(x, 0, 1), 0);
            due("the year 2", Shops.giveSmall(x, 0, 2), ILLEGAL);
            x.takeOff(0, 2);
            due("the year 2 that is taken off", x.order(0, 2, 1, 1, 0), 1);
        });
        sentence("a year whose order is cancelled can be ordered", () -> {
            TrophyPlates x = Shops.withOrders(2);
            x.cancel(0);
            due("the year 1", Shops.giveSmall(x, 0, 1), 1);
        });
        sentence("a plate that was to be for the year, but is spoiled by a slip, leaves the order there", () -> {
            TrophyPlates x = Shops.withPlate(10, 5);
            Shops.give(x, "a", 0, 1, 1, 3, 0);
            x.work(1);
            x.slip();
            due("the year 1", Shops.giveSmall(x, 0, 1), ILLEGAL);
        });
    }

    private static TrophyPlates withTenOrders() {
        TrophyPlates x = Shops.withOrders(10);
        x.append('a');
        return x;
    }

    private static void orderErrors() {
        Sentence.promise(9, "order");
        sentence("ILLEGAL_STATE if the text is empty", () ->
            Sentence.refused("order(0, 1, 1, 1, 0)", () -> withText(""), x -> x.order(0, 1, 1, 1, 0), ILLEGAL));
        sentence("CAPACITY_EXCEEDED if there are 10 orders: the tenth is given, the 11th is refused", () -> {
            due("the tenth", Shops.giveSmall(Shops.withOrders(9), 0, 10), 9);
            Sentence.refused("the 11th", OrdersEdges::withTenOrders, x -> x.order(0, 11, 1, 1, 0), FULL);
            Sentence.refused("the 11th, a rush", OrdersEdges::withTenOrders, x -> x.order(0, 11, 1, 1, 1), FULL);
        });
        sentence("CAPACITY_EXCEEDED if there are 10 orders: the one at work is one of them", () ->
            Sentence.refused("the 11th", Shops::full, x -> x.order(0, 50, 1, 1, 0), FULL));
        sentence("there is room again when one is done, or cancelled", () -> {
            TrophyPlates x = Shops.full();
            x.work(1);
            due("one is done", x.order(0, 50, 1, 1, 0), 9);
            due("the 11th", Shops.giveSmall(x, 0, 51), FULL);
            x.cancel(9);
            due("one is cancelled", x.order(0, 51, 1, 1, 0), 9);
        });
        sentence("INVALID_ARGUMENT ahead of ILLEGAL_STATE: the text is empty", () -> {
            Sentence.refused("shield", () -> withText(""), x -> x.order(1, 1, 1, 1, 0), INVALID);
            Sentence.refused("year", () -> withText(""), x -> x.order(0, 1000, 1, 1, 0), INVALID);
            Sentence.refused("size", () -> withText(""), x -> x.order(0, 1, 5, 1, 0), INVALID);
            Sentence.refused("depth", () -> withText(""), x -> x.order(0, 1, 1, 6, 0), INVALID);
            Sentence.refused("rush", () -> withText(""), x -> x.order(0, 1, 1, 1, 2), INVALID);
        });
        sentence("INVALID_ARGUMENT ahead of ILLEGAL_STATE: there is a plate or an order for this year", () -> {
            Sentence.refused("size", Shops::busy, x -> x.order(0, 10, 0, 1, 0), INVALID);
            Sentence.refused("depth", Shops::busy, x -> x.order(1, 5, 1, 0, 0), INVALID);
            Sentence.refused("rush", Shops::busy, x -> x.order(0, 20, 1, 1, -1), INVALID);
        });
        sentence("INVALID_ARGUMENT ahead of CAPACITY_EXCEEDED", () -> {
            Sentence.refused("shield", Shops::full, x -> x.order(3, 50, 1, 1, 0), INVALID);
            Sentence.refused("year", Shops::full, x -> x.order(0, 0, 1, 1, 0), INVALID);
            Sentence.refused("size", Shops::full, x -> x.order(0, 50, 0, 1, 0), INVALID);
            Sentence.refused("depth", Shops::full, x -> x.order(0, 50, 1, 0, 0), INVALID);
            Sentence.refused("rush", Shops::full, x -> x.order(0, 50, 1, 1, -1), INVALID);
        });
        sentence("ILLEGAL_STATE ahead of CAPACITY_EXCEEDED: the text is empty", () ->
            Sentence.refused("the 11th", () -> Shops.withOrders(10), x -> x.order(0, 11, 1, 1, 0), ILLEGAL));
        sentence("ILLEGAL_STATE ahead of CAPACITY_EXCEEDED: there is an order for this year", () ->
            Sentence.refused("the 11th", OrdersEdges::withTenOrders, x -> x.order(0, 10, 1, 1, 0), ILLEGAL));
        sentence("ILLEGAL_STATE ahead of CAPACITY_EXCEEDED: there is a plate for this year", () ->
            Sentence.refused("the 11th", () -> {
                TrophyPlates x = Shops.onShield(2, 1);
                for (int year = 2; year <= 11; year++) {
                    Shops.giveSmall(x, 0, year);
                }
                x.append('a');
                return x;
            }, x -> x.order(0, 1, 1, 1, 0), ILLEGAL));
        sentence("INVALID_ARGUMENT ahead of both ILLEGAL_STATE and CAPACITY_EXCEEDED", () ->
            Sentence.refused("the 11th with an empty text", () -> Shops.withOrders(10), x -> x.order(0, 10, 1, 6, 0),
                INVALID));
    }

    private static void hurry() {
        Sentence.promise(10, "hurry");
        sentence("order: the first and the last one are made rushes", () -> {
            due("the first", Shops.withOrders(10).hurry(0), 0);
            due("the last", Shops.withOrders(10).hurry(9), 0);
        });
        sentence("INVALID_ARGUMENT if there is no such order: below 0, and as many as there are", () -> {
            Sentence.outside("hurry(order)", 0, 2, Shops::busy, TrophyPlates::hurry);
            Sentence.outside("hurry(order)", 0, 9, Shops::full, TrophyPlates::hurry);
        });
        sentence("INVALID_ARGUMENT if there is no such order: the row is empty", () ->
            Sentence.refused("hurry(0)", () -> withText("a"), x -> x.hurry(0), INVALID));
        sentence("ILLEGAL_STATE if it is one: given as a rush", () ->
            Sentence.refused("hurry(0)", Shops::busy, x -> x.hurry(0), ILLEGAL));
        sentence("ILLEGAL_STATE if it is one: hurried before", () ->
            Sentence.refused("hurry(0)", () -> {
                TrophyPlates x = Shops.withOrders(3);
                x.hurry(2);
                return x;
            }, x -> x.hurry(0), ILLEGAL));
        sentence("ILLEGAL_STATE if it is one: the last of a row of rushes", () ->
            Sentence.refused("hurry(1)", () -> {
                TrophyPlates x = Shops.withOrders(2);
                x.hurry(0);
                x.hurry(1);
                return x;
            }, x -> x.hurry(1), ILLEGAL));
        sentence("this is an action: it is recorded, and undone", () -> {
            TrophyPlates x = Shops.withOrders(3);
            x.hurry(2);
            due("count(14)", x.count(14), 5);
            due("undo()", x.undo(), 4);
            Sentence.rowIs(x, 1, 2, 3);
            due("count(7)", x.count(7), 0);
            due("hurry(2)", x.hurry(2), 0);
        });
    }

    private static void hurryInTheRow() {
        Sentence.promise(10, "hurry");
        sentence("returns its number in the row then: from 0 to 9, as all ten are made rushes", () -> {
            TrophyPlates x = Shops.withOrders(10);
            for (int rushes = 0; rushes < 10; rushes++) {
                due("hurry(9)", x.hurry(9), rushes);
                due("count(7)", x.count(7), rushes + 1);
            }
            Sentence.rowIs(x, 10, 9, 8, 7, 6, 5, 4, 3, 2, 1);
            due("hurry(9)", x.hurry(9), ILLEGAL);
        });
        sentence("it counts as given after all other rushes: also after those that were given later", () -> {
            TrophyPlates x = Shops.withOrders(2);
            Shops.give(x, "a", 0, 3, 1, 1, 1);
            Sentence.rowIs(x, 3, 1, 2);
            due("hurry(1)", x.hurry(1), 1);
            Sentence.rowIs(x, 3, 1, 2);
            due("orderOf(1, 4)", x.orderOf(1, 4), 1);
            due("orderOf(2, 4)", x.orderOf(2, 4), 0);
        });
        sentence("it counts as given after all other rushes: a rush that is given then is behind it", () -> {
            TrophyPlates x = Shops.withOrders(3);
            x.hurry(1);
            due("a rush", Shops.give(x, "a", 0, 4, 1, 1, 1), 1);
            Sentence.rowIs(x, 2, 4, 1, 3);
        });
        sentence("the order at work is the same one when another is hurried", () -> {
            TrophyPlates x = Shops.atWork();
            Shops.giveSmall(x, 0, 8);
            due("hurry(1)", x.hurry(1), 0);
            Sentence.counts(x, 8, 1, 5, 0);
        });
        sentence("the order at work is the same one when another is hurried: behind it and ahead of it", () -> {
            TrophyPlates x = Shops.secondAtWork();
            due("the one behind it", x.hurry(2), 0);
            Sentence.rowIs(x, 3, 1, 2);
            Sentence.counts(x, 8, 2, 3, 0);
            due("the one ahead of it", x.hurry(1), 1);
            Sentence.rowIs(x, 3, 1, 2);
            Sentence.counts(x, 8, 2, 3, 0);
        });
        sentence("the order at work goes on when it is hurried itself", () -> {
            TrophyPlates x = Shops.atWork();
            Shops.giveSmall(x, 0, 8);
            x.hurry(1);
            due("hurry(1)", x.hurry(1), 1);
            Sentence.counts(x, 7, 2, 1, 5, 0);
            TrophyPlates y = Shops.withPlates(40);
            Shops.give(y, "abcdefgh", 0, 1, 2, 1, 0);
            Shops.giveSmall(y, 0, 2);
            y.cut(10, 5);
            y.work(1);
            due("the second is at work", y.count(8), 1);
            due("hurry(1)", y.hurry(1), 0);
            Sentence.counts(y, 8, 0, 1, 1);
        });
    }

    private static void cancel() {
        Sentence.promise(11, "cancel");
        sentence("order: the first and the last one are cancelled", () -> {
            TrophyPlates x = Shops.withOrders(10);
            due("the last", x.cancel(9), 9);
            due("the first", x.cancel(0), 8);
            Sentence.rowIs(x, 2, 3, 4, 5, 6, 7, 8, 9);
        });
        sentence("INVALID_ARGUMENT if there is no such order: below 0, and as many as there are", () -> {
            Sentence.outside("cancel(order)", 0, 2, Shops::busy, TrophyPlates::cancel);
            Sentence.outside("cancel(order)", 0, 9, Shops::full, TrophyPlates::cancel);
        });
        sentence("INVALID_ARGUMENT if there is no such order: the row is empty", () ->
            Sentence.refused("cancel(0)", () -> withText("a"), x -> x.cancel(0), INVALID));
        sentence("returns the number of orders that are left: from 9 to 0", () -> {
            TrophyPlates x = Shops.withOrders(10);
            for (int left = 9; left >= 0; left--) {
                due("cancel(" + left / 2 + ")", x.cancel(left / 2), left);
                due("count(6)", x.count(6), left);
            }
            due("cancel(0)", x.cancel(0), INVALID);
        });
        sentence("the rest of the row stays as it is, with the names", () -> {
            TrophyPlates x = Shops.withPlates();
            Shops.give(x, "ann", 0, 1, 1, 1, 0);
            Shops.give(x, "bo", 0, 2, 2, 3, 1);
            Shops.give(x, "cyril", 0, 3, 4, 5, 0);
            due("cancel(1)", x.cancel(1), 2);
            Sentence.rowIs(x, 2, 3);
            Sentence.nameIs(x, 0, "bo");
            Sentence.nameIs(x, 1, "cyril");
            Sentence.counts(x, 7, 1);
        });
        sentence("a cancelled order is not done", () -> {
            TrophyPlates x = Shops.atWork();
            x.cancel(0);
            due("count(11)", x.count(11), 0);
            due("plateFor(0, 7)", x.plateFor(0, 7), NONE);
        });
        sentence("this is an action: it is recorded, and undone with the names", () -> {
            TrophyPlates x = Shops.withPlates();
            Shops.give(x, "ann", 0, 1, 1, 1, 0);
            Shops.give(x, "bo", 0, 2, 1, 1, 0);
            x.cancel(0);
            due("count(14)", x.count(14), 4);
            due("undo()", x.undo(), 3);
            Sentence.rowIs(x, 1, 2);
            Sentence.nameIs(x, 0, "ann");
            Sentence.nameIs(x, 1, "bo");
        });
    }

    private static void cancelAtWork() {
        Sentence.promise(11, "cancel");
        sentence("if it is at work, its plate comes into the drawer", () -> {
            TrophyPlates x = Shops.atWork();
            due("cancel(0)", x.cancel(0), 0);
            Sentence.counts(x, 8, NONE, NONE, NONE);
            Sentence.counts(x, 0, 1, 0, 0, 0);
            Sentence.plateIs(x, 0, 20, 30, 0, 0, 0, NONE, NONE);
            due("slip()", x.slip(), ILLEGAL);
        });
        sentence("as it is: a ground side stays blank", () -> {
            TrophyPlates x = Shops.engraved(30, 5, 4);
            Shops.give(x, "b", 0, 2, 1, 3, 0);
            x.work(1);
            due("count(13)", x.count(13), 1);
            due("cancel(0)", x.cancel(0), 0);
            Sentence.plateIs(x, 0, 10, 24, 0, 0, 4, NONE, NONE);
            due("count(13)", x.count(13), 1);
        });
        sentence("as it is: a misspelt side stays engraved", () -> {
            TrophyPlates x = Shops.atWork();
            due("slip()", x.slip(), 1);
            due("cancel(0)", x.cancel(0), 0);
            Sentence.plateIs(x, 0, 20, 30, 0, 3, 0, NONE, NONE);
            due("count(12)", x.count(12), 1);
        });
        sentence("if it is not at work, the order at work goes on: the cancelled one is behind it", () -> {
            TrophyPlates x = Shops.busy();
            due("cancel(2)", x.cancel(2), 2);
            Sentence.counts(x, 8, 1, 7, 1);
            due("plate(1, 2)", x.plate(1, 2), 1);
        });
        sentence("if it is not at work, the order at work goes on: the cancelled one is ahead of it", () -> {
            TrophyPlates x = Shops.busy();
            due("cancel(0)", x.cancel(0), 2);
            Sentence.counts(x, 8, 0, 7, 1);
            due("plate(1, 2)", x.plate(1, 2), 1);
            due("work(7)", x.work(7), 1);
            due("plateFor(0, 20)", x.plateFor(0, 20), 1);
        });
        sentence("this is an action: undo() has the order at work again", () -> {
            TrophyPlates x = Shops.atWork();
            x.cancel(0);
            due("undo()", x.undo(), 4);
            Sentence.counts(x, 8, 0, 5, 0);
            due("plate(0, 2)", x.plate(0, 2), 1);
        });
        sentence("the plate is used for the next order", () -> {
            TrophyPlates x = Shops.atWork();
            Shops.giveSmall(x, 0, 8);
            x.cancel(0);
            due("work(2)", x.work(2), 1);
            due("plateFor(0, 8)", x.plateFor(0, 8), 0);
        });
    }
}

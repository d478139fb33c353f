/** The sentences of promises 15 to 20 that name a boundary case. */
public final class LookingEdges {
    private static final int INVALID = Sentence.INVALID;
    private static final int NONE = Sentence.NONE;

    public static void main(String[] args) {
        Sentence.begin(args);
        count();
        countOfPlates();
        countOfOrders();
        countSoFar();
        plate();
        plateOnShield();
        shield();
        shieldYears();
        plateFor();
        orderOf();
        letter();
        Sentence.end();
    }

    private static void sentence(String words, Runnable test) {
        Sentence.sentence(words, test);
    }

    private static void due(String call, int got, int want) {
        Sentence.due(call, got, want);
    }

    private static void count() {
        Sentence.promise(15, "count");
        sentence("what: 0 to 15: the first and the last one", () -> {
            TrophyPlates x = Shops.busy();
            due("count(0)", x.count(0), 2);
            due("count(15)", x.count(15), 2);
            TrophyPlates y = Shops.full();
            due("count(0)", y.count(0), 19);
            due("count(15)", y.count(15), 12);
        });
        sentence("INVALID_ARGUMENT if what is out of range: -1, 16 and the ends of int", () ->
            Sentence.outside("count(what)", 0, 15, Shops::busy, TrophyPlates::count));
        sentence("each number of a busy shop", () ->
            Sentence.counts(Shops.busy(), 0, 2, 1, 1, 1, 5, 2, 3, 1, 1, 7, 1, 1, 0, 0, 5, 2));
        sentence("each number of a full shop", () ->
            Sentence.counts(Shops.full(), 0, 19, 1, 0, 0, 20, 3, 10, 0, 0, 1, 0, 0, 0, 0, 5, 12));
        sentence("it changes nothing", () -> {
            for (int what = 0; what <= 15; what++) {
                int asked = what;
                Sentence.changesNothing("count(" + what + ")", Shops::busy, x -> x.count(asked),
                    Shops.busy().count(what));
            }
        });
    }

    private static void countOfPlates() {
        Sentence.promise(15, "count");
        sentence("0 to 3 the number of plates in the states 0 to 3, 4 of plates that have been cut: none", () ->
            Sentence.counts(new TrophyPlates(), 0, 0, 0, 0, 0, 0));
        sentence("0 the number of plates in the drawer: all 20", () ->
            Sentence.counts(Shops.withManyPlates(20), 0, 20, 0, 0, 0, 20));
        sentence("1 the number of plates at work: one or none", () -> {
            TrophyPlates x = Shops.atWork();
            Sentence.counts(x, 0, 0, 1, 0, 0, 1);
            x.work(5);
            Sentence.counts(x, 0, 0, 0, 1, 0, 1);
        });
        sentence("2 the number of plates on shields: as many as three full ones have", () -> {
            TrophyPlates x = Shops.withManyPlates(20);
            for (int shield = 0; shield < 3; shield++) {
                x.addShield(6);
            }
            for (int year = 1; year <= 6; year++) {
                for (int shield = 0; shield < 3; shield++) {
                    Shops.giveSmall(x, shield, year);
                }
                x.work(600);
            }
            Sentence.counts(x, 0, 2, 0, 18, 0, 20);
        });
        sentence("3 the number of plates that are spoiled: all 20", () -> {
            TrophyPlates x = Shops.withManyPlates(20);
            for (int plate = 0; plate < 20; plate++) {
                x.spoil(plate);
            }
            Sentence.counts(x, 0, 0, 0, 0, 20, 20);
        });
        sentence("5 of shields: from 0 to 3", () -> {
            TrophyPlates x = new TrophyPlates();
            for (int shields = 0; shields <= 3; shields++) {
                due("count(5)", x.count(5), shields);
                x.addShield(2);
            }
            due("count(5) behind a refused one", x.count(5), 3);
        });
    }

    private static void countOfOrders() {
        Sentence.promise(15, "count");
        sentence("6 of orders, 7 of rushes among them: from none to ten", () -> {
            for (int orders = 0; orders <= 10; orders++) {
                TrophyPlates x = Shops.withOrders(orders);
                Sentence.counts(x, 6, orders, 0);
                for (int rushes = 0; rushes < orders; rushes++) {
                    x.hurry(rushes);
                    Sentence.counts(x, 6, orders, rushes + 1);
                }
            }
        });
        sentence("7 of rushes among them: not those that are done or cancelled", () -> {
            TrophyPlates x = Shops.withPlates(10);
            Shops.give(x, "a", 0, 1, 1, 1, 1);
            Shops.give(x, "b", 0, 2, 1, 1, 1);
            x.work(2);
            Sentence.counts(x, 6, 1, 1);
            x.cancel(0);
            Sentence.counts(x, 6, 0, 0);
        });
        sentence("8 the order at work: the first and the last of ten", () -> {
            Sentence.counts(Shops.full(), 8, 0, 1, 0);
            TrophyPlates x = Shops.withPlates(20);
            Shops.give(x, "abc", 0, 50, 1, 3, 0);
            x.work(1);
            for (int year = 1; year <= 9; year++) {
                Shops.give(x, "a", 0, year, 1, 1, 1);
            }
            Sentence.counts(x, 8, 9, 11, 0);
        });
        sentence("8, 9 and 10: NONE if there is none: none given, begun or left", () -> {
            Sentence.counts(new TrophyPlates(), 8, NONE, NONE, NONE);
            Sentence.counts(Shops.withOrders(3), 8, NONE, NONE, NONE);
            TrophyPlates x = Shops.atWork();
            x.work(5);
            Sentence.counts(x, 8, NONE, NONE, NONE);
        });
        sentence("9 its minutes that are left: from the effort less 1 down to 1", () -> {
            TrophyPlates x = Shops.withPlates(20);
            Shops.give(x, "abc", 0, 50, 1, 3, 0);
            for (int left = 11; left >= 1; left--) {
                x.work(1);
                due("count(9)", x.count(9), left);
            }
        });
        sentence("10 its plate: the first and the last of 20", () -> {
            due("count(10)", Shops.full().count(10), 0);
            TrophyPlates x = Shops.withManyPlates(19);
            x.cut(20, 5);
            x.addShield(2);
            Shops.give(x, "mmm", 0, 1, 1, 1, 0);
            x.work(1);
            due("count(10)", x.count(10), 19);
        });
    }

    private static void countSoFar() {
        Sentence.promise(15, "count");
        sentence("11 the number of orders done so far: one more with each, not with a cancelled one", () -> {
            TrophyPlates x = Shops.onShield(2, 4);
            due("count(11)", x.count(11), 4);
            x.takeOff(0, 3);
            due("count(11)", x.count(11), 4);
            Shops.giveSmall(x, 0, 9);
            x.cancel(0);
            due("count(11)", x.count(11), 4);
        });
        sentence("12 of slips: those that turn, grind and spoil", () -> {
            TrophyPlates x = Shops.withPlate(10, 7);
            Shops.give(x, "a", 0, 1, 1, 1, 0);
            x.work(1);
            due("turned", x.slip(), 1);
            due("count(12)", x.count(12), 1);
            due("ground", x.slip(), 2);
            due("count(12)", x.count(12), 2);
            due("spoiled: 5 - 1 - 1 - 1 - 1 is 1", x.slip(), 3);
            due("count(12)", x.count(12), 3);
            x.slip();
            due("count(12) behind a refused one", x.count(12), 3);
        });
        sentence("13 of sides ground so far: by grind()", () -> {
            TrophyPlates x = Shops.engraved(30, 1, 1);
            x.grind(0, 1);
            due("count(13)", x.count(13), 1);
            x.grind(0, 1);
            due("count(13) behind a refused one", x.count(13), 1);
            x.grind(0, 0);
            due("count(13)", x.count(13), 2);
        });
        sentence("13 of sides ground so far: as orders begin", () -> {
            TrophyPlates x = Shops.engraved(30, 1, 1);
            Shops.giveSmall(x, 0, 5);
            due("count(13)", x.count(13), 0);
            x.work(1);
            due("count(13)", x.count(13), 1);
        });
        sentence("13 of sides ground so far: by slips that grind, not by others", () -> {
            TrophyPlates x = Shops.engraved(30, 1);
            Shops.giveSmall(x, 0, 5);
            x.work(1);
            due("slip()", x.slip(), 2);
            due("count(13)", x.count(13), 1);
            TrophyPlates y = Shops.atWork();
            due("slip()", y.slip(), 1);
            due("count(13)", y.count(13), 0);
        });
        sentence("13 of sides ground so far: no forecast grinds", () -> {
            TrophyPlates x = Shops.engraved(30, 1, 1);
            Shops.giveSmall(x, 0, 5);
            due("doneIn(0)", x.doneIn(0), 12);
            due("moved(0)", x.moved(0), 100000);
            due("count(13)", x.count(13), 0);
        });
        sentence("14 of states in the history: from 0 to 5", () -> {
            for (int plates = 0; plates <= 7; plates++) {
                due("count(14)", Shops.withManyPlates(plates).count(14), Math.min(plates, 5));
            }
        });
        sentence("15 the length of the text: from 0 to 12", () -> {
            TrophyPlates x = new TrophyPlates();
            for (int length = 0; length <= 12; length++) {
                due("count(15)", x.count(15), length);
                x.append('m');
            }
            due("count(15) behind a refused one", x.count(15), 12);
        });
    }

    private static void plate() {
        Sentence.promise(16, "plate");
        sentence("plate: the first and the last of 20", () -> {
            TrophyPlates x = new TrophyPlates();
            for (int plate = 0; plate < 20; plate++) {
                x.cut(10 + plate, 30 - plate);
            }
            Sentence.plateIs(x, 0, 10, 30, 0, 0, 0, NONE, NONE);
            Sentence.plateIs(x, 19, 29, 11, 0, 0, 0, NONE, NONE);
        });
        sentence("INVALID_ARGUMENT if there is no such plate: below 0, and as many as there are", () -> {
            Sentence.outside("plate(plate, 0)", 0, 4, Shops::busy, (x, plate) -> x.plate(plate, 0));
            Sentence.outside("plate(plate, 6)", 0, 19, Shops::full, (x, plate) -> x.plate(plate, 6));
        });
        sentence("INVALID_ARGUMENT if there is no such plate: none has been cut", () ->
            Sentence.refused("plate(0, 0)", TrophyPlates::new, x -> x.plate(0, 0), INVALID));
        sentence("what: 0 to 6: the first and the last one", () -> {
            TrophyPlates x = Shops.busy();
            due("plate(0, 0)", x.plate(0, 0), 20);
            due("plate(0, 6)", x.plate(0, 6), 10);
        });
        sentence("INVALID_ARGUMENT if what is out of range: -1, 7 and the ends of int", () ->
            Sentence.outside("plate(0, what)", 0, 6, Shops::busy, (x, what) -> x.plate(0, what)));
        sentence("0 its width: the least and the most", () -> {
            due("plate(0, 0)", Shops.withPlate(10, 5).plate(0, 0), 10);
            due("plate(0, 0)", Shops.withPlate(200, 5).plate(0, 0), 200);
        });
        sentence("1 its thickness: the least and the most, and as thin as it can be ground", () -> {
            due("plate(0, 1)", Shops.withPlate(10, 5).plate(0, 1), 5);
            due("plate(0, 1)", Shops.withPlate(10, 30).plate(0, 1), 30);
            TrophyPlates x = Shops.engraved(5, 2);
            x.grind(0, 0);
            due("plate(0, 1)", x.plate(0, 1), 2);
        });
        sentence("2 its state: each of the four", () -> {
            TrophyPlates x = Shops.busy();
            due("plate(2, 2)", x.plate(2, 2), 0);
            due("plate(1, 2)", x.plate(1, 2), 1);
            due("plate(0, 2)", x.plate(0, 2), 2);
            due("plate(3, 2)", x.plate(3, 2), 3);
        });
        sentence("3 the depth of its front and 4 of its back: 0 for a blank one, from 1 to 5 for another", () -> {
            Sentence.plateIs(Shops.withPlate(10, 30), 0, 10, 30, 0, 0, 0);
            for (int depth = 1; depth <= 5; depth++) {
                Sentence.plateIs(Shops.engraved(30, depth), 0, 10, 30, 0, depth, 0);
                Sentence.plateIs(Shops.engraved(30, 6 - depth, depth), 0, 10, 30, 0, 6 - depth, depth);
            }
        });
    }

    private static void plateOnShield() {
        Sentence.promise(16, "plate");
        sentence("5 the shield on which it is and 6 the year there: the first and the last of both", () -> {
            TrophyPlates x = Shops.withPlates(10, 10);
            x.addShield(2);
            x.addShield(2);
            Shops.giveSmall(x, 0, 1);
            Shops.giveSmall(x, 2, 999);
            x.work(600);
            Sentence.plateIs(x, 0, 10, 30, 2, 1, 0, 0, 1);
            Sentence.plateIs(x, 1, 10, 30, 2, 1, 0, 2, 999);
        });
        sentence("NONE for both if it is on none: in the drawer, at work, spoiled", () -> {
            TrophyPlates x = Shops.busy();
            for (int plate = 1; plate <= 4; plate++) {
                due("plate(" + plate + ", 5)", x.plate(plate, 5), NONE);
                due("plate(" + plate + ", 6)", x.plate(plate, 6), NONE);
            }
        });
        sentence("NONE for both if it is on none any more: taken off, come off, at work again, spoiled", () -> {
            TrophyPlates x = Shops.onShield(2, 3);
            Sentence.plateIs(x, 0, 10, 30, 0, 1, 0, NONE, NONE);
            Sentence.plateIs(x, 1, 10, 30, 2, 1, 0, 0, 2);
            x.takeOff(0, 2);
            Sentence.plateIs(x, 1, 10, 30, 0, 1, 0, NONE, NONE);
            Shops.giveSmall(x, 0, 9);
            x.work(1);
            Sentence.plateIs(x, 0, 10, 30, 1, 1, 0, NONE, NONE);
            x.spoil(1);
            Sentence.plateIs(x, 1, 10, 30, 3, 1, 0, NONE, NONE);
        });
        sentence("it changes nothing", () ->
            Sentence.changesNothing("plate(0, 5)", Shops::busy, x -> x.plate(0, 5), 0));
    }

    private static void shield() {
        Sentence.promise(17, "shield");
        sentence("shield: the first and the last of 3", () -> {
            TrophyPlates x = Shops.full();
            due("shield(0, 0)", x.shield(0, 0), 2);
            due("shield(2, 0)", x.shield(2, 0), 4);
        });
        sentence("INVALID_ARGUMENT if there is no such shield: below 0, and as many as there are", () -> {
            Sentence.outside("shield(shield, 0)", 0, 1, Shops::busy, (x, shield) -> x.shield(shield, 0));
            Sentence.outside("shield(shield, 4)", 0, 2, Shops::full, (x, shield) -> x.shield(shield, 4));
        });
        sentence("INVALID_ARGUMENT if there is no such shield: none is added", () ->
            Sentence.refused("shield(0, 0)", TrophyPlates::new, x -> x.shield(0, 0), INVALID));
        sentence("what: 0 to 4: the first and the last one", () -> {
            TrophyPlates x = Shops.onShield(3, 2);
            due("shield(0, 0)", x.shield(0, 0), 3);
            due("shield(0, 4)", x.shield(0, 4), 0);
        });
        sentence("INVALID_ARGUMENT if what is out of range: -1, 5 and the ends of int", () ->
            Sentence.outside("shield(0, what)", 0, 4, Shops::busy, (x, what) -> x.shield(0, what)));
        sentence("0 its places: from 2 to 6", () -> {
            for (int places = 2; places <= 6; places++) {
                due("shield(0, 0)", Shops.onShield(places, 0).shield(0, 0), places);
            }
        });
        sentence("1 the number of its plates: from 0 to as many as it has places", () -> {
            for (int plates = 0; plates <= 6; plates++) {
                due("shield(0, 1)", Shops.onShield(6, plates).shield(0, 1), plates);
            }
            due("shield(0, 1)", Shops.onShield(6, 7).shield(0, 1), 6);
        });
        sentence("it changes nothing", () ->
            Sentence.changesNothing("shield(0, 2)", Shops::busy, x -> x.shield(0, 2), 10));
    }

    private static TrophyPlates withYears(int... years) {
        TrophyPlates x = Shops.withManyPlates(6);
        x.addShield(6);
        x.addShield(2);
        for (int year : years) {
            Shops.giveSmall(x, 0, year);
        }
        x.work(600);
        return x;
    }

    private static void shieldYears() {
        Sentence.promise(17, "shield");
        sentence("2 the earliest and 3 the latest year: NONE without plates, 4: 0 without plates", () -> {
            Sentence.shieldIs(withYears(), 0, 6, 0, NONE, NONE, 0);
            Sentence.shieldIs(withYears(5), 1, 2, 0, NONE, NONE, 0);
            TrophyPlates x = withYears(5, 9);
            x.takeOff(0, 5);
            x.takeOff(0, 9);
            Sentence.shieldIs(x, 0, 6, 0, NONE, NONE, 0);
        });
        sentence("2 the earliest and 3 the latest year: an order alone is no plate", () ->
            Sentence.shieldIs(Shops.withOrders(3), 0, 6, 0, NONE, NONE, 0));
        sentence("2 the earliest and 3 the latest year: both are the same with one plate, and none is between", () -> {
            Sentence.shieldIs(withYears(1), 0, 6, 1, 1, 1, 0);
            Sentence.shieldIs(withYears(999), 0, 6, 1, 999, 999, 0);
        });
        sentence("2 the earliest and 3 the latest year: in whatever order they were fixed", () -> {
            Sentence.shieldIs(withYears(5, 3, 4), 0, 6, 3, 3, 5, 0);
            Sentence.shieldIs(withYears(4, 5, 3), 0, 6, 3, 3, 5, 0);
        });
        sentence("4 the number of years between them for which it has no plate: none, one, most", () -> {
            Sentence.shieldIs(withYears(7, 8), 0, 6, 2, 7, 8, 0);
            Sentence.shieldIs(withYears(7, 9), 0, 6, 2, 7, 9, 1);
            Sentence.shieldIs(withYears(7, 9, 8), 0, 6, 3, 7, 9, 0);
            Sentence.shieldIs(withYears(1, 999), 0, 6, 2, 1, 999, 997);
            Sentence.shieldIs(withYears(1, 999, 500), 0, 6, 3, 1, 999, 996);
        });
        sentence("2, 3 and 4 when the earliest has come off the full shield, or one is taken off", () -> {
            TrophyPlates x = Shops.onShield(3, 5);
            Sentence.shieldIs(x, 0, 3, 3, 3, 5, 0);
            x.takeOff(0, 4);
            Sentence.shieldIs(x, 0, 3, 2, 3, 5, 1);
            x.takeOff(0, 3);
            Sentence.shieldIs(x, 0, 3, 1, 5, 5, 0);
        });
    }

    private static void plateFor() {
        Sentence.promise(18, "plateFor");
        sentence("shield: the first and the last of 3", () -> {
            TrophyPlates x = Shops.full();
            x.work(600);
            due("plateFor(0, 3)", x.plateFor(0, 3), NONE);
            due("plateFor(0, 9)", x.plateFor(0, 9), 8);
            due("plateFor(2, 2)", x.plateFor(2, 2), 1);
        });
        sentence("shield: INVALID_ARGUMENT below 0, and as many as there are", () -> {
            Sentence.outside("plateFor(shield, 10)", 0, 1, Shops::busy, (x, shield) -> x.plateFor(shield, 10));
            Sentence.outside("plateFor(shield, 1)", 0, 2, Shops::full, (x, shield) -> x.plateFor(shield, 1));
        });
        sentence("shield: INVALID_ARGUMENT if there is none", () ->
            Sentence.refused("plateFor(0, 1)", () -> Shops.withManyPlates(1), x -> x.plateFor(0, 1), INVALID));
        sentence("year: 1 to 999: the first and the last one", () -> {
            TrophyPlates x = withYears(1, 999);
            due("plateFor(0, 1)", x.plateFor(0, 1), 0);
            due("plateFor(0, 999)", x.plateFor(0, 999), 1);
            TrophyPlates y = withYears(500);
            due("plateFor(0, 1)", y.plateFor(0, 1), NONE);
            due("plateFor(0, 999)", y.plateFor(0, 999), NONE);
        });
        sentence("year: 1 to 999: INVALID_ARGUMENT for 0, 1000 and the ends of int, and NONE is no year", () -> {
            Sentence.outside("plateFor(0, year)", 1, 999, Shops::busy, (x, year) -> x.plateFor(0, year));
            Sentence.refused("plateFor(0, -9)", Shops::busy, x -> x.plateFor(0, NONE), INVALID);
        });
        sentence("returns the plate: from 0 to 19", () -> {
            TrophyPlates x = new TrophyPlates();
            x.addShield(2);
            for (int plate = 0; plate < 20; plate++) {
                x.cut(29 - plate, 5);
            }
            Shops.giveSmall(x, 0, 1);
            x.work(600);
            due("plateFor(0, 1)", x.plateFor(0, 1), 19);
            due("plateFor(0, 1)", withYears(1).plateFor(0, 1), 0);
        });
        sentence("NONE if there is none: the years beside it, and another shield", () -> {
            TrophyPlates x = Shops.busy();
            due("plateFor(0, 10)", x.plateFor(0, 10), 0);
            due("plateFor(0, 9)", x.plateFor(0, 9), NONE);
            due("plateFor(0, 11)", x.plateFor(0, 11), NONE);
            due("plateFor(1, 10)", x.plateFor(1, 10), NONE);
        });
        sentence("NONE if there is none: ordered, at work, taken off, come off a full shield", () -> {
            TrophyPlates x = Shops.busy();
            due("ordered", x.plateFor(1, 5), NONE);
            due("at work", x.plateFor(0, 20), NONE);
            x.takeOff(0, 10);
            due("taken off", x.plateFor(0, 10), NONE);
            due("come off", Shops.onShield(2, 3).plateFor(0, 1), NONE);
        });
        sentence("it changes nothing", () -> {
            Sentence.changesNothing("plateFor(0, 10)", Shops::busy, x -> x.plateFor(0, 10), 0);
            Sentence.changesNothing("plateFor(0, 11)", Shops::busy, x -> x.plateFor(0, 11), NONE);
        });
    }

    private static void orderIs(TrophyPlates x, int order, int... wanted) {
        for (int what = 0; what < wanted.length; what++) {
            due("orderOf(" + order + ", " + what + ")", x.orderOf(order, what), wanted[what]);
        }
    }

    private static void orderOf() {
        Sentence.promise(19, "orderOf");
        sentence("order: the first and the last of ten", () -> {
            TrophyPlates x = Shops.full();
            due("orderOf(0, 1)", x.orderOf(0, 1), 1);
            due("orderOf(9, 1)", x.orderOf(9, 1), 10);
        });
        sentence("INVALID_ARGUMENT if there is no such order: below 0, and as many as there are", () -> {
            Sentence.outside("orderOf(order, 0)", 0, 2, Shops::busy, (x, order) -> x.orderOf(order, 0));
            Sentence.outside("orderOf(order, 7)", 0, 9, Shops::full, (x, order) -> x.orderOf(order, 7));
        });
        sentence("INVALID_ARGUMENT if there is no such order: the row is empty", () -> {
            Sentence.refused("orderOf(0, 0)", TrophyPlates::new, x -> x.orderOf(0, 0), INVALID);
            TrophyPlates x = Shops.withOrders(1);
            x.cancel(0);
            due("orderOf(0, 0) of a cancelled one", x.orderOf(0, 0), INVALID);
        });
        sentence("what: 0 to 7: the first and the last one", () -> {
            TrophyPlates x = Shops.busy();
            due("orderOf(0, 0)", x.orderOf(0, 0), 1);
            due("orderOf(1, 7)", x.orderOf(1, 7), 12);
        });
        sentence("INVALID_ARGUMENT if what is out of range: -1, 8 and the ends of int", () ->
            Sentence.outside("orderOf(0, what)", 0, 7, Shops::busy, (x, what) -> x.orderOf(0, what)));
        sentence("each property of the least order: 1 letter, 2 long, effort 2", () -> {
            TrophyPlates x = Shops.withPlates();
            Shops.give(x, "i", 0, 1, 1, 1, 0);
            orderIs(x, 0, 0, 1, 1, 1, 0, 1, 2, 2);
        });
        sentence("each property of the greatest order: 12 letters, 284 long, effort 108", () -> {
            TrophyPlates x = Shops.full();
            due("cancel(9)", x.cancel(9), 9);
            x.clearText();
            due("order", Shops.give(x, "mmmmmmwwwwww", 2, 999, 4, 5, 1), 0);
            orderIs(x, 0, 2, 999, 4, 5, 1, 12, 284, 108);
        });
        sentence("4 1 for a rush and 0 for another one: 1 also for one that was hurried", () -> {
            TrophyPlates x = Shops.withOrders(2);
            x.hurry(1);
            due("orderOf(0, 4)", x.orderOf(0, 4), 1);
            due("orderOf(1, 4)", x.orderOf(1, 4), 0);
        });
        sentence("7 its effort: not its minutes that are left", () -> {
            TrophyPlates x = Shops.atWork();
            due("count(9)", x.count(9), 5);
            due("orderOf(0, 7)", x.orderOf(0, 7), 12);
        });
        sentence("it changes nothing", () ->
            Sentence.changesNothing("orderOf(1, 6)", Shops::busy, x -> x.orderOf(1, 6), 28));
    }

    private static TrophyPlates withNames(String... names) {
        TrophyPlates x = Shops.withPlates();
        for (int order = 0; order < names.length; order++) {
            Shops.give(x, names[order], 0, order + 1, 1, 1, 0);
        }
        return x;
    }

    private static void letter() {
        Sentence.promise(20, "letter");
        sentence("order: the first and the last of ten", () -> {
            TrophyPlates x = withNames("a", "b", "c", "d", "e", "f", "g", "h", "i", "z");
            due("letter(0, 0)", x.letter(0, 0), 97);
            due("letter(9, 0)", x.letter(9, 0), 122);
        });
        sentence("INVALID_ARGUMENT if there is no such order: below 0, and as many as there are", () -> {
            Sentence.outside("letter(order, 0)", 0, 2, Shops::busy, (x, order) -> x.letter(order, 0));
            Sentence.outside("letter(order, 11)", 0, 9, Shops::full, (x, order) -> x.letter(order, 11));
        });
        sentence("INVALID_ARGUMENT if there is no such order: the row is empty", () ->
            Sentence.refused("letter(0, 0)", () -> Shops.withOrders(0), x -> x.letter(0, 0), INVALID));
        sentence("index: 0 for the first one; INVALID_ARGUMENT if index is negative", () -> {
            due("letter(0, 0)", withNames("abc").letter(0, 0), 'a');
            Sentence.refused("letter(0, -1)", Shops::busy, x -> x.letter(0, -1), INVALID);
            Sentence.refused("letter(0, least)", Shops::busy, x -> x.letter(0, Integer.MIN_VALUE), INVALID);
            Sentence.refused("letter(0, -9)", Shops::busy, x -> x.letter(0, NONE), INVALID);
        });
        sentence("NONE if its name has not so many letters: the last one, and the one behind it", () -> {
            TrophyPlates x = withNames("q", "abcdefghijkl");
            due("letter(0, 0)", x.letter(0, 0), 'q');
            due("letter(0, 1)", x.letter(0, 1), NONE);
            due("letter(1, 11)", x.letter(1, 11), 'l');
            due("letter(1, 12)", x.letter(1, 12), NONE);
        });
        sentence("NONE if its name has not so many letters: however great the index is", () -> {
            TrophyPlates x = withNames("abcdefghijkl");
            due("letter(0, 13)", x.letter(0, 13), NONE);
            due("letter(0, 1000000)", x.letter(0, 1000000), NONE);
            due("letter(0, most)", x.letter(0, Integer.MAX_VALUE), NONE);
        });
        sentence("NONE if its name has not so many letters: also if a longer name stood there before", () -> {
            TrophyPlates x = withNames("abcdefghijkl", "xyz");
            x.cancel(0);
            due("letter(0, 2)", x.letter(0, 2), 'z');
            due("letter(0, 3)", x.letter(0, 3), NONE);
            Shops.give(x, "q", 0, 9, 1, 1, 0);
            due("letter(1, 0)", x.letter(1, 0), 'q');
            due("letter(1, 1)", x.letter(1, 1), NONE);
        });
        sentence("INVALID_ARGUMENT ahead of NONE", () -> {
            Sentence.refused("letter(3, 12)", Shops::busy, x -> x.letter(3, 12), INVALID);
            Sentence.refused("letter(-1, 12)", Shops::busy, x -> x.letter(-1, 12), INVALID);
        });
        sentence("returns 97 for a, to 122 for z: each of them", () -> {
            String all = "abcdefghijklmnopqrstuvwxyz";
            TrophyPlates x = withNames(all.substring(0, 12), all.substring(12, 24), all.substring(24));
            for (int i = 0; i < 26; i++) {
                due("letter(" + i / 12 + ", " + i % 12 + ")", x.letter(i / 12, i % 12), 97 + i);
            }
        });
        sentence("it changes nothing", () -> {
            Sentence.changesNothing("letter(1, 2)", Shops::busy, x -> x.letter(1, 2), 'b');
            Sentence.changesNothing("letter(1, 3)", Shops::busy, x -> x.letter(1, 3), NONE);
        });
    }
}

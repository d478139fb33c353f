/** The sentences of promises 1 to 6 that name a boundary case. */
public final class PlatesAndShieldsEdges {
    private static final int INVALID = Sentence.INVALID;
    private static final int ILLEGAL = Sentence.ILLEGAL;
    private static final int FULL = Sentence.FULL;
    private static final int NONE = Sentence.NONE;

    public static void main(String[] args) {
        Sentence.begin(args);
        newObject();
        cut();
        cutOfTheTerms();
        spoil();
        grind();
        grindTooThin();
        addShield();
        takeOff();
        Sentence.end();
    }

    private static void sentence(String words, Runnable test) {
        Sentence.sentence(words, test);
    }

    private static void due(String call, int got, int want) {
        Sentence.due(call, got, want);
    }

    private static void newObject() {
        Sentence.promise(1, "a new object");
        sentence("a shop without plates", () -> {
            TrophyPlates x = new TrophyPlates();
            Sentence.counts(x, 0, 0, 0, 0, 0, 0);
            due("plate(0, 0)", x.plate(0, 0), INVALID);
            due("spoil(0)", x.spoil(0), INVALID);
            due("grind(0, 0)", x.grind(0, 0), INVALID);
            due("cut(10, 5)", x.cut(10, 5), 0);
        });
        sentence("without shields", () -> {
            TrophyPlates x = new TrophyPlates();
            due("count(5)", x.count(5), 0);
            due("shield(0, 0)", x.shield(0, 0), INVALID);
            due("plateFor(0, 1)", x.plateFor(0, 1), INVALID);
            due("takeOff(0, 1)", x.takeOff(0, 1), INVALID);
            due("order(0, 1, 1, 1, 0)", x.order(0, 1, 1, 1, 0), INVALID);
            due("addShield(2)", x.addShield(2), 0);
        });
        sentence("without orders", () -> {
            TrophyPlates x = new TrophyPlates();
            Sentence.counts(x, 6, 0, 0, NONE, NONE, NONE);
            due("orderOf(0, 0)", x.orderOf(0, 0), INVALID);
            due("letter(0, 0)", x.letter(0, 0), INVALID);
            due("hurry(0)", x.hurry(0), INVALID);
            due("cancel(0)", x.cancel(0), INVALID);
            due("doneIn(0)", x.doneIn(0), INVALID);
            due("moved(0)", x.moved(0), INVALID);
            due("slip()", x.slip(), ILLEGAL);
            due("work(600)", x.work(600), 0);
        });
        sentence("with an empty text", () -> {
            TrophyPlates x = new TrophyPlates();
            due("count(15)", x.count(15), 0);
            due("lengthOf(4)", x.lengthOf(4), 0);
            due("clearText()", x.clearText(), 0);
            due("append('a')", x.append('a'), 1);
        });
        sentence("nothing is done, slipped or ground so far, and the history is empty", () -> {
            TrophyPlates x = new TrophyPlates();
            Sentence.counts(x, 11, 0, 0, 0, 0);
            due("undo()", x.undo(), ILLEGAL);
        });
        sentence("each object is a shop of its own", () -> {
            TrophyPlates x = new TrophyPlates();
            TrophyPlates y = Shops.busy();
            Sentence.counts(x, 0, 0, 0, 0, 0, 0, 0, 0, 0, NONE, NONE, NONE, 0, 0, 0, 0, 0);
            x.addShield(4);
            due("the other one's count(5)", y.count(5), 2);
        });
        sentence("INVALID_ARGUMENT = -1, ILLEGAL_STATE = -2, CAPACITY_EXCEEDED = -3, NONE = -9", () -> {
            due("INVALID_ARGUMENT", TrophyPlates.INVALID_ARGUMENT, -1);
            due("ILLEGAL_STATE", TrophyPlates.ILLEGAL_STATE, -2);
            due("CAPACITY_EXCEEDED", TrophyPlates.CAPACITY_EXCEEDED, -3);
            due("NONE", TrophyPlates.NONE, -9);
        });
    }

    private static void cut() {
        Sentence.promise(2, "cut");
        sentence("width: 10 to 200: the least and the most are cut", () -> {
            TrophyPlates x = new TrophyPlates();
            due("cut(10, 20)", x.cut(10, 20), 0);
            due("cut(200, 20)", x.cut(200, 20), 1);
            due("plate(0, 0)", x.plate(0, 0), 10);
            due("plate(1, 0)", x.plate(1, 0), 200);
        });
        sentence("width: 10 to 200: 9, 201 and the ends of int are refused with INVALID_ARGUMENT", () ->
            Sentence.outside("cut(width, 20)", 10, 200, Shops::busy, (x, width) -> x.cut(width, 20)));
        sentence("thickness: 5 to 30: the least and the most are cut", () -> {
            TrophyPlates x = new TrophyPlates();
            due("cut(20, 5)", x.cut(20, 5), 0);
            due("cut(20, 30)", x.cut(20, 30), 1);
            due("plate(0, 1)", x.plate(0, 1), 5);
            due("plate(1, 1)", x.plate(1, 1), 30);
        });
        sentence("thickness: 5 to 30: 4, 31 and the ends of int are refused with INVALID_ARGUMENT", () ->
            Sentence.outside("cut(20, thickness)", 5, 30, Shops::busy, (x, thickness) -> x.cut(20, thickness)));
        sentence("INVALID_ARGUMENT if an argument is out of range: also if both are", () ->
            Sentence.refused("cut(9, 31)", Shops::busy, x -> x.cut(9, 31), INVALID));
        sentence("returns its number: from 0 to 19", () -> {
            TrophyPlates x = new TrophyPlates();
            for (int plate = 0; plate < 20; plate++) {
                due("cut(" + (10 + plate) + ", 5)", x.cut(10 + plate, 5), plate);
            }
            for (int plate = 0; plate < 20; plate++) {
                due("plate(" + plate + ", 0)", x.plate(plate, 0), 10 + plate);
            }
        });
        sentence("CAPACITY_EXCEEDED if 20 have been cut: the 20th is cut, the 21st is refused", () -> {
            due("the 20th", Shops.withManyPlates(19).cut(10, 5), 19);
            Sentence.refused("the 21st", () -> Shops.withManyPlates(20), x -> x.cut(10, 5), FULL);
            Sentence.refused("the 21st in a full shop", Shops::full, x -> x.cut(200, 30), FULL);
        });
        sentence("CAPACITY_EXCEEDED if 20 have been cut: spoiled ones have been cut, too", () ->
            Sentence.refused("the 21st", () -> {
                TrophyPlates x = Shops.withManyPlates(20);
                for (int plate = 0; plate < 20; plate++) {
                    x.spoil(plate);
                }
                return x;
            }, x -> x.cut(10, 5), FULL));
        sentence("INVALID_ARGUMENT ahead of CAPACITY_EXCEEDED", () -> {
            Sentence.refused("a 21st of width 9", Shops::full, x -> x.cut(9, 5), INVALID);
            Sentence.refused("a 21st of thickness 31", Shops::full, x -> x.cut(10, 31), INVALID);
        });
    }

    private static void cutOfTheTerms() {
        Sentence.promise(2, "cut");
        sentence("this is an action: undo() takes the plate away, and its number is given again", () -> {
            TrophyPlates x = Shops.withManyPlates(19);
            x.cut(33, 7);
            due("count(14)", x.count(14), 5);
            due("undo()", x.undo(), 4);
            due("count(4)", x.count(4), 19);
            due("plate(19, 0)", x.plate(19, 0), INVALID);
            due("cut(44, 8)", x.cut(44, 8), 19);
            Sentence.plateIs(x, 19, 44, 8, 0, 0, 0, NONE, NONE);
            due("cut(44, 8)", x.cut(44, 8), FULL);
        });
        sentence("each side is blank and the plate is in the drawer at first, on no shield", () -> {
            TrophyPlates x = new TrophyPlates();
            x.cut(10, 5);
            Sentence.plateIs(x, 0, 10, 5, 0, 0, 0, NONE, NONE);
        });
        sentence("a plate that is cut where an engraved one was undone is blank as well", () -> {
            TrophyPlates x = Shops.withPlate(10, 30);
            Shops.giveSmall(x, 0, 1);
            x.work(1);
            x.slip();
            x.work(600);
            for (int step = 0; step < 5; step++) {
                x.undo();
            }
            due("cut(11, 9)", x.cut(11, 9), 0);
            Sentence.plateIs(x, 0, 11, 9, 0, 0, 0, NONE, NONE);
        });
    }

    private static void spoil() {
        Sentence.promise(3, "spoil");
        sentence("plate: the first and the last one are spoiled", () -> {
            TrophyPlates x = Shops.withManyPlates(20);
            due("spoil(0)", x.spoil(0), 1);
            due("spoil(19)", x.spoil(19), 2);
            due("plate(0, 2)", x.plate(0, 2), 3);
            due("plate(19, 2)", x.plate(19, 2), 3);
            due("plate(1, 2)", x.plate(1, 2), 0);
            due("plate(18, 2)", x.plate(18, 2), 0);
        });
        sentence("INVALID_ARGUMENT if there is no such plate: below 0, and as many as there are", () -> {
            Sentence.outside("spoil(plate)", 0, 4, Shops::busy, TrophyPlates::spoil);
            Sentence.outside("spoil(plate)", 0, 19, Shops::full, TrophyPlates::spoil);
        });
        sentence("INVALID_ARGUMENT if there is no such plate: none has been cut", () ->
            Sentence.refused("spoil(0)", () -> Shops.withManyPlates(0), x -> x.spoil(0), INVALID));
        sentence("returns the number of spoiled plates: from 1 to 20", () -> {
            TrophyPlates x = Shops.withManyPlates(20);
            for (int plate = 19; plate >= 0; plate--) {
                due("spoil(" + plate + ")", x.spoil(plate), 20 - plate);
            }
        });
        sentence("returns the number of spoiled plates: those that a slip has spoiled, too", () -> {
            TrophyPlates x = Shops.withPlate(10, 5);
            x.cut(20, 5);
            Shops.give(x, "a", 0, 1, 1, 3, 0);
            x.work(1);
            due("slip()", x.slip(), 3);
            due("spoil(1)", x.spoil(1), 2);
        });
        sentence("ILLEGAL_STATE if it is not in the drawer: at work", () ->
            Sentence.refused("spoil(1)", Shops::busy, x -> x.spoil(1), ILLEGAL));
        sentence("ILLEGAL_STATE if it is not in the drawer: on a shield", () ->
            Sentence.refused("spoil(0)", Shops::busy, x -> x.spoil(0), ILLEGAL));
        sentence("ILLEGAL_STATE if it is not in the drawer: spoiled already", () ->
            Sentence.refused("spoil(3)", Shops::busy, x -> x.spoil(3), ILLEGAL));
        sentence("a plate that has come into the drawer again is spoiled", () -> {
            TrophyPlates x = Shops.busy();
            x.takeOff(0, 10);
            due("spoil(0)", x.spoil(0), 2);
            x.cancel(1);
            due("spoil(1)", x.spoil(1), 3);
        });
        sentence("this is an action: it is recorded, and undone", () -> {
            TrophyPlates x = Shops.withManyPlates(1);
            x.spoil(0);
            due("count(14)", x.count(14), 2);
            due("undo()", x.undo(), 1);
            due("plate(0, 2)", x.plate(0, 2), 0);
            due("spoil(0)", x.spoil(0), 1);
        });
        sentence("a plate is thrown away: all else of it stays", () -> {
            TrophyPlates x = Shops.engraved(12, 3, 4);
            x.spoil(0);
            Sentence.plateIs(x, 0, 10, 12, 3, 3, 4, NONE, NONE);
        });
    }

    /** A plate engraved in front with 2, at work on its back. */
    private static TrophyPlates engravedAtWork() {
        TrophyPlates x = Shops.engraved(30, 2);
        Shops.give(x, "b", 0, 2, 1, 1, 0);
        x.work(1);
        return x;
    }

    private static void grind() {
        Sentence.promise(4, "grind");
        sentence("plate: the first and the last one are ground", () -> {
            TrophyPlates x = Shops.withPlates(10, 10);
            Shops.giveSmall(x, 0, 1);
            Shops.giveSmall(x, 0, 2);
            x.work(600);
            x.takeOff(0, 1);
            x.takeOff(0, 2);
            due("grind(0, 0)", x.grind(0, 0), 28);
            due("grind(1, 0)", x.grind(1, 0), 28);
        });
        sentence("plate: INVALID_ARGUMENT below 0, and as many as there are", () -> {
            Sentence.outside("grind(plate, 0)", 0, 4, Shops::busy, (x, plate) -> x.grind(plate, 0));
            Sentence.outside("grind(plate, 1)", 0, 19, Shops::full, (x, plate) -> x.grind(plate, 1));
        });
        sentence("plate: INVALID_ARGUMENT if none has been cut", () ->
            Sentence.refused("grind(0, 0)", () -> Shops.withManyPlates(0), x -> x.grind(0, 0), INVALID));
        sentence("side: 0 or 1: both are ground, each by its own depth", () -> {
            TrophyPlates x = Shops.engraved(20, 3, 5);
            due("grind(0, 0)", x.grind(0, 0), 16);
            Sentence.plateIs(x, 0, 10, 16, 0, 0, 5, NONE, NONE);
            TrophyPlates y = Shops.engraved(20, 3, 5);
            due("grind(0, 1)", y.grind(0, 1), 14);
            Sentence.plateIs(y, 0, 10, 14, 0, 3, 0, NONE, NONE);
        });
        sentence("side: 0 or 1: -1, 2 and the ends of int are refused with INVALID_ARGUMENT", () ->
            Sentence.outside("grind(0, side)", 0, 1, () -> Shops.engraved(30, 3, 5), (x, side) -> x.grind(0, side)));
        sentence("returns the thickness then: less by its depth and by 1, from depth 1 to 5", () -> {
            for (int depth = 1; depth <= 5; depth++) {
                due("depth " + depth, Shops.engraved(30, depth).grind(0, 0), 29 - depth);
            }
        });
        sentence("ILLEGAL_STATE if the plate is not in the drawer: at work", () -> {
            Sentence.refused("grind(0, 0)", PlatesAndShieldsEdges::engravedAtWork, x -> x.grind(0, 0), ILLEGAL);
            TrophyPlates x = engravedAtWork();
            x.cancel(0);
            due("in the drawer again", x.grind(0, 0), 27);
        });
        sentence("ILLEGAL_STATE if the plate is not in the drawer: on a shield", () -> {
            Sentence.refused("grind(0, 0)", () -> Shops.onShield(2, 1), x -> x.grind(0, 0), ILLEGAL);
            TrophyPlates x = Shops.onShield(2, 1);
            x.takeOff(0, 1);
            due("in the drawer again", x.grind(0, 0), 28);
        });
        sentence("ILLEGAL_STATE if the plate is not in the drawer: spoiled", () ->
            Sentence.refused("grind(0, 0)", () -> {
                TrophyPlates x = Shops.engraved(30, 3, 5);
                x.spoil(0);
                return x;
            }, x -> x.grind(0, 0), ILLEGAL));
        sentence("ILLEGAL_STATE if the side is blank: of a new plate", () -> {
            Sentence.refused("grind(0, 0)", () -> Shops.withPlates(20), x -> x.grind(0, 0), ILLEGAL);
            Sentence.refused("grind(0, 1)", () -> Shops.withPlates(20), x -> x.grind(0, 1), ILLEGAL);
        });
        sentence("ILLEGAL_STATE if the side is blank: the other one is engraved", () ->
            Sentence.refused("grind(0, 1)", () -> Shops.engraved(30, 3), x -> x.grind(0, 1), ILLEGAL));
        sentence("ILLEGAL_STATE if the side is blank: it has been ground", () ->
            Sentence.refused("grind(0, 0)", () -> {
                TrophyPlates x = Shops.engraved(30, 3, 5);
                x.grind(0, 0);
                return x;
            }, x -> x.grind(0, 0), ILLEGAL));
        sentence("INVALID_ARGUMENT ahead of ILLEGAL_STATE", () -> {
            Sentence.refused("a third side at work", Shops::atWork, x -> x.grind(0, 2), INVALID);
            Sentence.refused("a side below 0 of a spoiled one", Shops::busy, x -> x.grind(3, -1), INVALID);
        });
        sentence("this is an action: it is recorded, and undone with its number of sides ground", () -> {
            TrophyPlates x = Shops.engraved(30, 3);
            due("grind(0, 0)", x.grind(0, 0), 26);
            Sentence.counts(x, 13, 1, 5);
            due("undo()", x.undo(), 4);
            Sentence.plateIs(x, 0, 10, 30, 0, 3, 0);
            due("count(13)", x.count(13), 0);
        });
    }

    private static void grindTooThin() {
        Sentence.promise(4, "grind");
        sentence("ILLEGAL_STATE if the thickness less the depth of the other side would be less than 2 then:"
            + " 0 for a blank one", () -> {
                due("6 - 3 - 1 is 2", Shops.engraved(6, 3).grind(0, 0), 2);
                Sentence.refused("5 - 3 - 1 is 1", () -> Shops.engraved(5, 3), x -> x.grind(0, 0), ILLEGAL);
                due("8 - 5 - 1 is 2", Shops.engraved(8, 5).grind(0, 0), 2);
                Sentence.refused("7 - 5 - 1 is 1", () -> Shops.engraved(7, 5), x -> x.grind(0, 0), ILLEGAL);
            });
        sentence("ILLEGAL_STATE if the thickness less the depth of the other side would be less than 2 then:"
            + " the front with an engraved back", () -> {
                due("10 - 3 - 1 - 4 is 2", Shops.engraved(10, 3, 4).grind(0, 0), 6);
                Sentence.refused("9 - 3 - 1 - 4 is 1", () -> Shops.engraved(9, 3, 4), x -> x.grind(0, 0), ILLEGAL);
            });
        sentence("ILLEGAL_STATE if the thickness less the depth of the other side would be less than 2 then:"
            + " the back with an engraved front", () -> {
                due("10 - 4 - 1 - 3 is 2", Shops.engraved(10, 3, 4).grind(0, 1), 5);
                Sentence.refused("9 - 4 - 1 - 3 is 1", () -> Shops.engraved(9, 3, 4), x -> x.grind(0, 1), ILLEGAL);
            });
        sentence("ILLEGAL_STATE if the thickness less the depth of the other side would be less than 2 then:"
            + " thick enough for one side, but not for both", () -> {
                TrophyPlates x = Shops.engraved(10, 3, 4);
                due("10 - 3 - 1 - 4 is 2", x.grind(0, 0), 6);
                due("6 - 4 - 1 - 0 is 1", x.grind(0, 1), ILLEGAL);
                TrophyPlates y = Shops.engraved(11, 3, 4);
                due("11 - 3 - 1 - 4 is 3", y.grind(0, 0), 7);
                due("7 - 4 - 1 - 0 is 2", y.grind(0, 1), 2);
            });
    }

    private static TrophyPlates withShields(int number) {
        TrophyPlates x = new TrophyPlates();
        for (int shield = 0; shield < number; shield++) {
            x.addShield(2 + shield);
        }
        return x;
    }

    private static void addShield() {
        Sentence.promise(5, "addShield");
        sentence("places: 2 to 6: the least and the most are added", () -> {
            TrophyPlates x = new TrophyPlates();
            due("addShield(2)", x.addShield(2), 0);
            due("addShield(6)", x.addShield(6), 1);
            Sentence.shieldIs(x, 0, 2, 0, NONE, NONE, 0);
            Sentence.shieldIs(x, 1, 6, 0, NONE, NONE, 0);
        });
        sentence("INVALID_ARGUMENT if places is out of range: 1, 7 and the ends of int", () ->
            Sentence.outside("addShield(places)", 2, 6, Shops::busy, TrophyPlates::addShield));
        sentence("returns its number: from 0 to 2", () -> {
            TrophyPlates x = new TrophyPlates();
            for (int shield = 0; shield < 3; shield++) {
                due("addShield(" + (3 + shield) + ")", x.addShield(3 + shield), shield);
                due("count(5)", x.count(5), shield + 1);
            }
            for (int shield = 0; shield < 3; shield++) {
                due("shield(" + shield + ", 0)", x.shield(shield, 0), 3 + shield);
            }
        });
        sentence("CAPACITY_EXCEEDED if there are 3: the third is added, the fourth is refused", () -> {
            due("the third", withShields(2).addShield(6), 2);
            Sentence.refused("the fourth", () -> withShields(3), x -> x.addShield(6), FULL);
            Sentence.refused("the fourth in a full shop", Shops::full, x -> x.addShield(2), FULL);
        });
        sentence("INVALID_ARGUMENT ahead of CAPACITY_EXCEEDED", () -> {
            Sentence.refused("a fourth of 1 place", Shops::full, x -> x.addShield(1), INVALID);
            Sentence.refused("a fourth of 7 places", Shops::full, x -> x.addShield(7), INVALID);
        });
        sentence("this is an action: undo() takes the shield away, and its number is given again", () -> {
            TrophyPlates x = withShields(3);
            due("count(14)", x.count(14), 3);
            due("undo()", x.undo(), 2);
            due("shield(2, 0)", x.shield(2, 0), INVALID);
            due("addShield(5)", x.addShield(5), 2);
            due("shield(2, 0)", x.shield(2, 0), 5);
            due("addShield(5)", x.addShield(5), FULL);
        });
    }

    private static TrophyPlates withPlateFor(int year) {
        TrophyPlates x = Shops.withPlates(10);
        Shops.giveSmall(x, 0, year);
        x.work(600);
        return x;
    }

    private static void takeOff() {
        Sentence.promise(6, "takeOff");
        sentence("shield: the first and the last one", () -> {
            TrophyPlates x = withShields(3);
            x.cut(10, 30);
            x.cut(10, 30);
            Shops.giveSmall(x, 0, 5);
            Shops.giveSmall(x, 2, 5);
            x.work(600);
            due("takeOff(2, 5)", x.takeOff(2, 5), 1);
            due("takeOff(0, 5)", x.takeOff(0, 5), 0);
        });
        sentence("shield: INVALID_ARGUMENT below 0, and as many as there are", () -> {
            Sentence.outside("takeOff(shield, 10)", 0, 1, Shops::busy, (x, shield) -> x.takeOff(shield, 10));
            Sentence.outside("takeOff(shield, 1)", 0, 2, Shops::full, (x, shield) -> x.takeOff(shield, 1));
        });
        sentence("shield: INVALID_ARGUMENT if there is none", () ->
            Sentence.refused("takeOff(0, 1)", () -> Shops.withManyPlates(2), x -> x.takeOff(0, 1), INVALID));
        sentence("year: 1 to 999: the first and the last one", () -> {
            due("takeOff(0, 1)", withPlateFor(1).takeOff(0, 1), 0);
            due("takeOff(0, 999)", withPlateFor(999).takeOff(0, 999), 0);
        });
        sentence("year: 1 to 999: 0, 1000 and the ends of int are refused with INVALID_ARGUMENT", () ->
            Sentence.outside("takeOff(0, year)", 1, 999, Shops::busy, (x, year) -> x.takeOff(0, year)));
        sentence("INVALID_ARGUMENT: the year -9 of the plates that are on no shield", () ->
            Sentence.refused("takeOff(0, -9)", Shops::busy, x -> x.takeOff(0, NONE), INVALID));
        sentence("returns the number of the plate: from 0 to 19", () -> {
            TrophyPlates x = Shops.onShield(2, 1);
            due("takeOff(0, 1)", x.takeOff(0, 1), 0);
            TrophyPlates y = new TrophyPlates();
            y.addShield(2);
            for (int plate = 0; plate < 20; plate++) {
                y.cut(29 - plate, 5);
            }
            Shops.giveSmall(y, 0, 1);
            y.work(600);
            due("takeOff(0, 1) of the least wide", y.takeOff(0, 1), 19);
        });
        sentence("ILLEGAL_STATE if there is no plate for this year: the shield is empty", () ->
            Sentence.refused("takeOff(1, 10)", Shops::busy, x -> x.takeOff(1, 10), ILLEGAL));
        sentence("ILLEGAL_STATE if there is no plate for this year: the years beside it", () -> {
            Sentence.refused("takeOff(0, 9)", Shops::busy, x -> x.takeOff(0, 9), ILLEGAL);
            Sentence.refused("takeOff(0, 11)", Shops::busy, x -> x.takeOff(0, 11), ILLEGAL);
        });
        sentence("ILLEGAL_STATE if there is no plate for this year: it is ordered, and at work", () -> {
            Sentence.refused("takeOff(1, 5), ordered", Shops::busy, x -> x.takeOff(1, 5), ILLEGAL);
            Sentence.refused("takeOff(0, 20), at work", Shops::busy, x -> x.takeOff(0, 20), ILLEGAL);
        });
        sentence("ILLEGAL_STATE if there is no plate for this year: it has been taken off", () ->
            Sentence.refused("takeOff(0, 1) again", () -> {
                TrophyPlates x = Shops.onShield(2, 2);
                x.takeOff(0, 1);
                return x;
            }, x -> x.takeOff(0, 1), ILLEGAL));
        sentence("ILLEGAL_STATE if there is no plate for this year: it has come off a full shield", () ->
            Sentence.refused("takeOff(0, 1)", () -> Shops.onShield(2, 3), x -> x.takeOff(0, 1), ILLEGAL));
        sentence("INVALID_ARGUMENT ahead of ILLEGAL_STATE", () -> {
            Sentence.refused("the year 1000 of an empty shield", Shops::busy, x -> x.takeOff(1, 1000), INVALID);
            Sentence.refused("a year without plate of no shield", Shops::busy, x -> x.takeOff(2, 77), INVALID);
        });
        sentence("into the drawer; its engraving stays", () -> {
            TrophyPlates x = Shops.onShield(2, 2);
            due("takeOff(0, 2)", x.takeOff(0, 2), 1);
            Sentence.plateIs(x, 1, 10, 30, 0, 1, 0, NONE, NONE);
            Sentence.plateIs(x, 0, 10, 30, 2, 1, 0, 0, 1);
            Sentence.counts(x, 0, 1, 0, 1);
        });
        sentence("the place is free then", () -> {
            TrophyPlates x = Shops.onShield(2, 2);
            x.takeOff(0, 2);
            Shops.giveSmall(x, 0, 2);
            due("work(600)", x.work(600), 1);
            Sentence.shieldIs(x, 0, 2, 2, 1, 2, 0);
        });
        sentence("this is an action: it is recorded, and undone", () -> {
            TrophyPlates x = withPlateFor(999);
            x.takeOff(0, 999);
            due("count(14)", x.count(14), 5);
            due("undo()", x.undo(), 4);
            Sentence.plateIs(x, 0, 10, 30, 2, 1, 0, 0, 999);
            due("takeOff(0, 999)", x.takeOff(0, 999), 0);
        });
    }
}

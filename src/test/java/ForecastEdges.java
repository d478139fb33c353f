/** The sentences of promises 21 to 25 that name a boundary case. */
public final class ForecastEdges {
    private static final int INVALID = Sentence.INVALID;
    private static final int ILLEGAL = Sentence.ILLEGAL;
    private static final int NONE = Sentence.NONE;

    public static void main(String[] args) {
        Sentence.begin(args);
        lengthOf();
        plateFound();
        plateFoundAnswers();
        doneIn();
        doneInAhead();
        moved();
        movedNone();
        movedSum();
        largestSize();
        Sentence.end();
    }

    private static void sentence(String words, Runnable test) {
        Sentence.sentence(words, test);
    }

    private static void due(String call, int got, int want) {
        Sentence.due(call, got, want);
    }

    private static TrophyPlates withText(TrophyPlates x, String text) {
        x.clearText();
        Shops.write(x, text);
        return x;
    }

    private static int length(String text, int size) {
        return withText(new TrophyPlates(), text).lengthOf(size);
    }

    private static void lengthOf() {
        Sentence.promise(21, "lengthOf");
        sentence("size: 1 to 4: the least and the most", () -> {
            due("size 1", length("a", 1), 4);
            due("size 4", length("a", 4), 16);
        });
        sentence("INVALID_ARGUMENT if size is out of range: 0, 5 and the ends of int", () ->
            Sentence.outside("lengthOf(size)", 1, 4, Shops::busy, TrophyPlates::lengthOf));
        sentence("INVALID_ARGUMENT if size is out of range: with an empty text, too", () ->
            Sentence.outside("lengthOf(size)", 1, 4, TrophyPlates::new, TrophyPlates::lengthOf));
        sentence("0 for an empty text: in every size, of a new object, and when it is cleared or ordered", () -> {
            TrophyPlates x = Shops.withPlates();
            for (int size = 1; size <= 4; size++) {
                due("size " + size, x.lengthOf(size), 0);
            }
            Shops.write(x, "abc");
            x.clearText();
            due("cleared", x.lengthOf(1), 0);
            Shops.giveSmall(x, 0, 1);
            due("ordered", x.lengthOf(4), 0);
        });
        sentence("f, i, j, l, r and t have the width 2, m and w the width 5, all others 4", () -> {
            for (char letter = 'a'; letter <= 'z'; letter++) {
                int width = "fijlrt".indexOf(letter) >= 0 ? 2 : "mw".indexOf(letter) >= 0 ? 5 : 4;
                due("the width of " + letter, length(String.valueOf(letter), 1), width);
            }
        });
        sentence("1 for each gap between two of them: none with one letter, 1 with two, 11 with twelve", () -> {
            due("i", length("i", 1), 2);
            due("ii", length("ii", 1), 5);
            due("iii", length("iii", 1), 8);
            due("twelve", length("iiiiiiiiiiii", 1), 35);
        });
        sentence("all of it times the size: the gaps as well, up to the longest name", () -> {
            for (int size = 1; size <= 4; size++) {
                due("tim in size " + size, length("tim", size), 11 * size);
                due("the longest in size " + size, length("mwmwmwmwmwmw", size), 71 * size);
            }
        });
        sentence("it changes nothing", () -> {
            Sentence.changesNothing("lengthOf(4)", Shops::busy, x -> x.lengthOf(4), 36);
            Sentence.changesNothing("lengthOf(1)", TrophyPlates::new, x -> x.lengthOf(1), 0);
        });
    }

    private static void plateFound() {
        Sentence.promise(22, "plateFound");
        sentence("size: 1 to 4: the least and the most", () -> {
            TrophyPlates x = withText(Shops.withPlates(16, 10), "a");
            due("size 1", x.plateFound(1, 1, 0), 1);
            due("size 4", x.plateFound(4, 1, 0), 0);
        });
        sentence("size: 1 to 4: 0, 5 and the ends of int are refused with INVALID_ARGUMENT", () ->
            Sentence.outside("plateFound(size, 1, 0)", 1, 4, Shops::busy, (x, size) -> x.plateFound(size, 1, 0)));
        sentence("depth: 1 to 5: the least and the most", () -> {
            TrophyPlates x = withText(Shops.withPlate(10, 5), "a");
            x.cut(10, 7);
            due("depth 1", x.plateFound(1, 1, 0), 0);
            due("depth 5", x.plateFound(1, 5, 0), 1);
        });
        sentence("depth: 1 to 5: 0, 6 and the ends of int are refused with INVALID_ARGUMENT", () ->
            Sentence.outside("plateFound(1, depth, 0)", 1, 5, Shops::busy, (x, depth) -> x.plateFound(1, depth, 0)));
        sentence("what: 0 for the plate, 1 for the side, 2 for the grinding: each of them", () -> {
            TrophyPlates x = withText(Shops.withPlates(10, 20), "mmm");
            due("what 0", x.plateFound(1, 1, 0), 1);
            due("what 1", x.plateFound(1, 1, 1), 0);
            due("what 2", x.plateFound(1, 1, 2), 0);
        });
        sentence("what: 0 to 2: -1, 3 and the ends of int are refused with INVALID_ARGUMENT", () ->
            Sentence.outside("plateFound(1, 1, what)", 0, 2, Shops::busy, (x, what) -> x.plateFound(1, 1, what)));
        sentence("ILLEGAL_STATE if the text is empty: with plates, and without one", () -> {
            for (int what = 0; what <= 2; what++) {
                int asked = what;
                Sentence.refused("plateFound(1, 1, " + what + ")", () -> Shops.withPlates(10),
                    x -> x.plateFound(1, 1, asked), ILLEGAL);
                Sentence.refused("plateFound(1, 1, " + what + ")", TrophyPlates::new,
                    x -> x.plateFound(1, 1, asked), ILLEGAL);
            }
        });
        sentence("INVALID_ARGUMENT ahead of ILLEGAL_STATE", () -> {
            Sentence.refused("size", () -> Shops.withPlates(10), x -> x.plateFound(5, 1, 0), INVALID);
            Sentence.refused("depth", () -> Shops.withPlates(10), x -> x.plateFound(1, 6, 0), INVALID);
            Sentence.refused("what", () -> Shops.withPlates(10), x -> x.plateFound(1, 1, 3), INVALID);
        });
        sentence("INVALID_ARGUMENT ahead of NONE", () -> {
            Sentence.refused("size", () -> withText(new TrophyPlates(), "a"), x -> x.plateFound(0, 1, 0), INVALID);
            Sentence.refused("depth", () -> withText(new TrophyPlates(), "a"), x -> x.plateFound(1, 0, 0), INVALID);
            Sentence.refused("what", () -> withText(new TrophyPlates(), "a"), x -> x.plateFound(1, 1, -1), INVALID);
        });
    }

    private static void plateFoundAnswers() {
        Sentence.promise(22, "plateFound");
        sentence("NONE if there is no plate for it: none has been cut", () ->
            Sentence.foundIs(withText(new TrophyPlates(), "a"), 1, 1, NONE, NONE, NONE));
        sentence("NONE if there is no plate for it: narrower than the text is long by 1, or as wide", () -> {
            Sentence.foundIs(withText(Shops.withPlates(13), "abc"), 1, 1, NONE, NONE, NONE);
            Sentence.foundIs(withText(Shops.withPlates(14), "abc"), 1, 1, 0, 0, 0);
            Sentence.foundIs(withText(Shops.withPlates(55), "abc"), 4, 1, NONE, NONE, NONE);
            Sentence.foundIs(withText(Shops.withPlates(56), "abc"), 4, 1, 0, 0, 0);
        });
        sentence("NONE if there is no plate for it: too thin by 1, or thick enough", () -> {
            Sentence.foundIs(withText(Shops.withPlate(10, 6), "a"), 1, 5, NONE, NONE, NONE);
            Sentence.foundIs(withText(Shops.withPlate(10, 7), "a"), 1, 5, 0, 0, 0);
        });
        sentence("NONE if there is no plate for it: its other side engraved, too thin by 1, or thick enough", () -> {
            Sentence.foundIs(withText(Shops.engraved(9, 3), "a"), 1, 5, NONE, NONE, NONE);
            Sentence.foundIs(withText(Shops.engraved(10, 3), "a"), 1, 5, 0, 1, 0);
        });
        sentence("2 for 1 if the side has to be ground and 0 if not: too thin by 1, or thick enough", () -> {
            Sentence.foundIs(withText(Shops.engraved(13, 3, 3), "a"), 1, 5, NONE, NONE, NONE);
            Sentence.foundIs(withText(Shops.engraved(14, 3, 3), "a"), 1, 5, 0, 0, 1);
        });
        sentence("2 for 1 if the side has to be ground: not if a wider plate is ready", () -> {
            TrophyPlates x = Shops.engraved(14, 3, 3);
            x.cut(200, 30);
            Sentence.foundIs(withText(x, "a"), 1, 5, 1, 0, 0);
        });
        sentence("NONE if there is no plate for it: at work, on a shield or spoiled", () -> {
            Sentence.foundIs(withText(Shops.atWork(), "a"), 1, 1, NONE, NONE, NONE);
            Sentence.foundIs(withText(Shops.onShield(2, 2), "a"), 1, 1, NONE, NONE, NONE);
            TrophyPlates x = Shops.withPlates(10);
            x.spoil(0);
            Sentence.foundIs(withText(x, "a"), 1, 1, NONE, NONE, NONE);
        });
        sentence("as if it was to begin now: also while an order is at work, and others wait", () -> {
            Sentence.foundIs(Shops.busy(), 1, 1, 2, 0, 0);
            Sentence.foundIs(withText(Shops.full(), "a"), 1, 1, 1, 0, 0);
            TrophyPlates x = Shops.withOrders(10);
            x.cut(10, 5);
            Sentence.foundIs(withText(x, "a"), 1, 1, 0, 0, 0);
        });
        sentence("returns the number: the last of 20 plates", () -> {
            TrophyPlates x = Shops.withManyPlates(19);
            x.cut(14, 5);
            Sentence.foundIs(withText(x, "abc"), 1, 1, 19, 0, 0);
        });
        sentence("it changes nothing, whether a plate is found, to be ground, or none", () -> {
            Sentence.changesNothing("found", Shops::busy, x -> x.plateFound(1, 1, 0), 2);
            Sentence.changesNothing("to be ground", () -> withText(Shops.engraved(14, 3, 3), "a"),
                x -> x.plateFound(1, 5, 2), 1);
            Sentence.changesNothing("none", () -> withText(Shops.atWork(), "a"), x -> x.plateFound(1, 1, 1), NONE);
        });
    }

    private static void doneIn() {
        Sentence.promise(23, "doneIn");
        sentence("order: the first and the last of ten", () -> {
            TrophyPlates x = Shops.full();
            due("doneIn(0)", x.doneIn(0), 1);
            due("doneIn(9)", x.doneIn(9), 19);
        });
        sentence("INVALID_ARGUMENT if there is no such order: below 0, and as many as there are", () -> {
            Sentence.outside("doneIn(order)", 0, 2, Shops::busy, TrophyPlates::doneIn);
            Sentence.outside("doneIn(order)", 0, 9, Shops::full, TrophyPlates::doneIn);
        });
        sentence("INVALID_ARGUMENT if there is no such order: the row is empty", () ->
            Sentence.refused("doneIn(0)", () -> Shops.withPlates(10), x -> x.doneIn(0), INVALID));
        sentence("NONE if work comes to an end without it: there is no plate at all", () -> {
            TrophyPlates x = Shops.withOrders(2);
            due("doneIn(0)", x.doneIn(0), NONE);
            due("doneIn(1)", x.doneIn(1), NONE);
        });
        sentence("NONE if work comes to an end without it: others are done", () -> {
            TrophyPlates x = Shops.withPlates(10);
            Shops.give(x, "mmm", 0, 1, 1, 1, 0);
            Shops.giveSmall(x, 0, 2);
            due("doneIn(0)", x.doneIn(0), NONE);
            due("doneIn(1)", x.doneIn(1), 2);
        });
        sentence("NONE if work comes to an end without it: the plates are used up", () -> {
            TrophyPlates x = Shops.withOrders(3);
            x.cut(10, 5);
            x.cut(10, 5);
            due("doneIn(1)", x.doneIn(1), 4);
            due("doneIn(2)", x.doneIn(2), NONE);
        });
        sentence("it changes nothing, whether the order is done or not", () -> {
            Sentence.changesNothing("doneIn(1)", Shops::busy, x -> x.doneIn(1), 7);
            Sentence.changesNothing("doneIn(1)", () -> Shops.withOrders(3), x -> x.doneIn(1), NONE);
            Sentence.changesNothing("doneIn(9)", Shops::full, x -> x.doneIn(9), 19);
            Sentence.changesNothing("doneIn(1)", Shops::waiting, x -> x.doneIn(1), 33);
        });
    }

    private static void doneInAhead() {
        Sentence.promise(23, "doneIn");
        sentence("behind how many minutes of work: as many bring it about, one less does not", () -> {
            TrophyPlates x = Shops.full();
            due("doneIn(9)", x.doneIn(9), 19);
            due("work(18)", x.work(18), 9);
            due("doneIn(0)", x.doneIn(0), 1);
            due("work(1)", x.work(1), 1);
        });
        sentence("behind how many minutes of work: of the order at work those that are left, down to 1", () -> {
            TrophyPlates x = Shops.atWork();
            for (int left = 5; left >= 1; left--) {
                due("doneIn(0)", x.doneIn(0), left);
                x.work(1);
            }
            due("doneIn(0) of one that is done", x.doneIn(0), INVALID);
        });
        sentence("behind how many minutes of work: the order at work is ahead, also of a rush", () -> {
            TrophyPlates x = Shops.busy();
            due("the order at work", x.doneIn(1), 7);
            due("the rush", x.doneIn(0), 11);
            due("the last one", x.doneIn(2), 15);
        });
        sentence("behind how many minutes of work: also more than the 600 of one work()", () -> {
            TrophyPlates x = Shops.tenLongOnes();
            due("doneIn(4)", x.doneIn(4), 540);
            due("doneIn(5)", x.doneIn(5), 648);
            due("doneIn(9)", x.doneIn(9), 1080);
        });
        sentence("behind how many minutes of work: with 10 more if a side is ground as it begins", () -> {
            TrophyPlates x = Shops.engraved(14, 3, 3);
            Shops.give(x, "a", 0, 5, 1, 5, 0);
            due("doneIn(0)", x.doneIn(0), 16);
            TrophyPlates y = Shops.engraved(10, 3);
            Shops.give(y, "a", 0, 5, 1, 5, 0);
            due("doneIn(0)", y.doneIn(0), 6);
        });
        sentence("plates that come back from full shields are used, too", () -> {
            TrophyPlates x = Shops.onShield(2, 2);
            x.cut(10, 30);
            Shops.giveSmall(x, 0, 3);
            Shops.giveSmall(x, 0, 4);
            Shops.giveSmall(x, 0, 5);
            due("doneIn(0)", x.doneIn(0), 2);
            due("doneIn(1) on the first that comes back", x.doneIn(1), 4);
            due("doneIn(2) on the second", x.doneIn(2), 6);
            due("work(6)", x.work(6), 3);
        });
        sentence("plates that come back from full shields: of the shield of the order alone", () -> {
            TrophyPlates x = Shops.onShield(2, 2);
            x.addShield(2);
            x.cut(10, 30);
            Shops.giveSmall(x, 1, 3);
            Shops.giveSmall(x, 1, 4);
            due("doneIn(0) on the shield with places left", x.doneIn(0), 2);
            due("doneIn(1)", x.doneIn(1), NONE);
            x.cut(10, 30);
            Shops.giveSmall(x, 1, 5);
            Shops.giveSmall(x, 0, 6);
            due("doneIn(1) fills it", x.doneIn(1), 4);
            due("doneIn(2)", x.doneIn(2), NONE);
            x.cut(10, 30);
            due("doneIn(2) sends the year 3 back", x.doneIn(2), 6);
            due("doneIn(3) takes it", x.doneIn(3), 8);
        });
        sentence("plates that come back from full shields: not if there is a place left", () -> {
            TrophyPlates x = Shops.onShield(3, 2);
            x.cut(10, 30);
            Shops.giveSmall(x, 0, 3);
            Shops.giveSmall(x, 0, 4);
            due("doneIn(0)", x.doneIn(0), 2);
            due("doneIn(1)", x.doneIn(1), NONE);
        });
        sentence("plates that come back from full shields: the new one, if its year is the earliest", () -> {
            TrophyPlates x = Shops.withPlates(10, 10);
            Shops.giveSmall(x, 0, 8);
            Shops.giveSmall(x, 0, 9);
            x.work(600);
            x.cut(10, 5);
            Shops.give(x, "a", 0, 1, 1, 1, 0);
            Shops.give(x, "b", 0, 2, 1, 2, 0);
            due("doneIn(1): 5 - 1 - 2 is 2, on its back", x.doneIn(1), 5);
            due("work(5)", x.work(5), 2);
            Sentence.plateIs(x, 2, 10, 5, 0, 1, 2);
        });
    }

    private static void moved() {
        Sentence.promise(24, "moved");
        sentence("order: the first and the last of ten", () -> {
            TrophyPlates x = Shops.tenLongOnes();
            due("moved(0)", x.moved(0), 100000);
            due("moved(9)", x.moved(9), 100000 + 9 * 108);
        });
        sentence("INVALID_ARGUMENT if there is no such order: below 0, and as many as there are", () -> {
            Sentence.outside("moved(order)", 0, 2, Shops::busy, TrophyPlates::moved);
            Sentence.outside("moved(order)", 0, 9, Shops::full, TrophyPlates::moved);
        });
        sentence("INVALID_ARGUMENT if there is no such order: the row is empty", () ->
            Sentence.refused("moved(0)", () -> Shops.withPlates(10), x -> x.moved(0), INVALID));
        sentence("ILLEGAL_STATE if it is a rush: given as one, or hurried", () -> {
            Sentence.refused("moved(0)", Shops::busy, x -> x.moved(0), ILLEGAL);
            Sentence.refused("moved(9)", () -> {
                TrophyPlates x = Shops.tenLongOnes();
                for (int rushes = 0; rushes < 10; rushes++) {
                    x.hurry(rushes);
                }
                return x;
            }, x -> x.moved(9), ILLEGAL);
        });
        sentence("ILLEGAL_STATE ahead of NONE", () ->
            Sentence.refused("moved(0) of a rush that is not done", () -> {
                TrophyPlates x = Shops.withOrders(2);
                x.hurry(1);
                return x;
            }, x -> x.moved(0), ILLEGAL));
        sentence("it changes nothing, whatever it answers", () -> {
            Sentence.changesNothing("moved(1)", Shops::busy, x -> x.moved(1), 100000);
            Sentence.changesNothing("moved(2)", Shops::busy, x -> x.moved(2), 100000);
            Sentence.changesNothing("moved(9)", Shops::full, x -> x.moved(9), 100016);
            Sentence.changesNothing("moved(1)", Shops::waiting, x -> x.moved(1), 100000);
            Sentence.changesNothing("moved(1)", () -> Shops.withOrders(2), x -> x.moved(1), NONE);
        });
    }

    private static void movedNone() {
        Sentence.promise(24, "moved");
        sentence("NONE if any order would not be done now or then: this one neither now nor then", () -> {
            TrophyPlates x = Shops.withPlates(10);
            Shops.give(x, "mmm", 0, 1, 1, 1, 0);
            due("alone", x.moved(0), NONE);
            Shops.giveSmall(x, 0, 2);
            due("with another one that is done", x.moved(0), NONE);
        });
        sentence("NONE if any order would not be done now or then: another one neither now nor then", () -> {
            TrophyPlates x = Shops.withPlates(10);
            Shops.give(x, "mmm", 0, 1, 1, 1, 0);
            Shops.giveSmall(x, 0, 2);
            due("moved(1)", x.moved(1), NONE);
        });
        sentence("NONE if any order would not be done now or then: this one not now, but all of them then", () -> {
            TrophyPlates x = Shops.withPlate(20, 5);
            x.cut(15, 27);
            Shops.give(x, "ab", 0, 8, 1, 1, 0);
            Shops.give(x, "ab", 0, 3, 1, 4, 0);
            due("doneIn(0)", x.doneIn(0), 4);
            due("doneIn(1)", x.doneIn(1), NONE);
            due("moved(1)", x.moved(1), NONE);
            x.hurry(1);
            due("doneIn(0) then", x.doneIn(0), 10);
            due("doneIn(1) then", x.doneIn(1), 14);
        });
        sentence("NONE if any order would not be done now or then: another one not now, but all of them then", () -> {
            TrophyPlates x = Shops.withPlate(20, 5);
            x.cut(15, 17);
            x.cut(20, 18);
            Shops.give(x, "abc", 0, 1, 1, 2, 0);
            Shops.give(x, "a", 0, 7, 1, 4, 0);
            Shops.give(x, "a", 0, 2, 1, 4, 0);
            due("doneIn(0)", x.doneIn(0), 9);
            due("doneIn(1)", x.doneIn(1), 14);
            due("doneIn(2)", x.doneIn(2), NONE);
            due("moved(1)", x.moved(1), NONE);
            x.hurry(1);
            due("doneIn(0) then", x.doneIn(0), 5);
            due("doneIn(1) then", x.doneIn(1), 14);
            due("doneIn(2) then", x.doneIn(2), 19);
        });
        sentence("NONE if any order would not be done now or then: all of them now, but another one not then", () -> {
            TrophyPlates x = Shops.withPlate(10, 6);
            x.cut(11, 5);
            Shops.give(x, "a", 0, 1, 1, 4, 0);
            Shops.give(x, "b", 0, 2, 1, 1, 0);
            due("doneIn(0)", x.doneIn(0), 5);
            due("doneIn(1)", x.doneIn(1), 7);
            due("moved(1)", x.moved(1), NONE);
            due("moved(0) leaves the row as it is", x.moved(0), 100000);
            x.hurry(1);
            due("doneIn(0) then", x.doneIn(0), 2);
            due("doneIn(1) then", x.doneIn(1), NONE);
        });
    }

    private static void movedSum() {
        Sentence.promise(24, "moved");
        sentence("100000 plus the sum over the others: 0 if there are none", () ->
            due("moved(0)", withPlatesAndOrders(1).moved(0), 100000));
        sentence("the sum over the others: each that was ahead is later by the effort", () -> {
            for (int order = 0; order < 10; order++) {
                due("moved(" + order + ")", withPlatesAndOrders(10).moved(order), 100000 + 2 * order);
            }
        });
        sentence("the sum over the others: not over this one, which is sooner", () -> {
            TrophyPlates x = Shops.withPlates(20, 20);
            Shops.give(x, "abcd", 0, 1, 1, 1, 0);
            Shops.give(x, "a", 0, 2, 1, 1, 0);
            due("doneIn(1)", x.doneIn(1), 10);
            due("moved(1): one later by 2, this one sooner by 8", x.moved(1), 100002);
        });
        sentence("as hurry() does it: the order at work goes on, and is not later", () -> {
            TrophyPlates x = Shops.atWork();
            x.cut(20, 30);
            Shops.giveSmall(x, 0, 8);
            due("moved(1)", x.moved(1), 100000);
            due("moved(0), the order at work itself", x.moved(0), 100000);
        });
        sentence("as hurry() does it: behind all other rushes", () -> {
            TrophyPlates x = withPlatesAndOrders(5);
            x.hurry(0);
            x.hurry(1);
            due("moved(2), the next one behind them", x.moved(2), 100000);
            due("moved(4)", x.moved(4), 100004);
        });
        sentence("the sum can be below 0: 100000 plus it then", () -> {
            TrophyPlates x = sooner();
            due("doneIn(0)", x.doneIn(0), 31);
            due("doneIn(1)", x.doneIn(1), 24);
            due("moved(2): one 24 sooner, the other one 7 later", x.moved(2), 99983);
            x.hurry(2);
            due("doneIn(1) then", x.doneIn(1), 7);
            due("doneIn(2) then", x.doneIn(2), 31);
        });
    }

    private static TrophyPlates withPlatesAndOrders(int number) {
        TrophyPlates x = Shops.withManyPlates(number);
        x.addShield(6);
        x.addShield(6);
        for (int order = 0; order < number; order++) {
            Shops.giveSmall(x, order % 2, order + 1);
        }
        return x;
    }

    /** The first order waits for the only wide plate, and the third one sends it back from a full shield. */
    private static TrophyPlates sooner() {
        TrophyPlates x = Shops.withPlates(60, 10);
        x.addShield(2);
        Shops.give(x, "mm", 0, 10, 4, 1, 0);
        Shops.give(x, "a", 0, 20, 1, 1, 0);
        x.work(600);
        x.cut(12, 30);
        x.cut(12, 30);
        Shops.give(x, "w", 1, 2, 4, 1, 0);
        Shops.give(x, "iiii", 1, 3, 1, 5, 0);
        Shops.give(x, "i", 0, 30, 1, 1, 0);
        return x;
    }

    private static void largestSize() {
        Sentence.promise(25, "largestSize");
        sentence("plate: the first and the last of 20", () -> {
            TrophyPlates x = Shops.withManyPlates(19);
            x.cut(200, 5);
            Shops.write(x, "ab");
            due("largestSize(0)", x.largestSize(0), 1);
            due("largestSize(19)", x.largestSize(19), 4);
        });
        sentence("INVALID_ARGUMENT if there is no such plate: below 0, and as many as there are", () -> {
            Sentence.outside("largestSize(plate)", 0, 4, Shops::busy, TrophyPlates::largestSize);
            Sentence.outside("largestSize(plate)", 0, 19, Shops::full, TrophyPlates::largestSize);
        });
        sentence("INVALID_ARGUMENT if there is no such plate: none has been cut", () ->
            Sentence.refused("largestSize(0)", () -> withText(new TrophyPlates(), "a"), x -> x.largestSize(0),
                INVALID));
        sentence("ILLEGAL_STATE if the text is empty", () ->
            Sentence.refused("largestSize(0)", () -> Shops.withPlates(200), x -> x.largestSize(0), ILLEGAL));
        sentence("INVALID_ARGUMENT ahead of ILLEGAL_STATE", () -> {
            Sentence.refused("no plate", TrophyPlates::new, x -> x.largestSize(0), INVALID);
            Sentence.refused("a plate behind the last", () -> Shops.withPlates(200), x -> x.largestSize(1), INVALID);
        });
        sentence("the largest size in which the text fits: as wide as it is long, and narrower by 1", () -> {
            for (int size = 1; size <= 4; size++) {
                TrophyPlates x = withText(Shops.withPlates(11 * size, 11 * size - 1), "tim");
                due("as wide as size " + size, x.largestSize(0), size);
                due("narrower by 1", x.largestSize(1), size == 1 ? NONE : size - 1);
            }
        });
        sentence("returns 1 to 4: not 5 on the widest plate with one letter", () -> {
            TrophyPlates x = withText(Shops.withPlates(200), "i");
            due("largestSize(0)", x.largestSize(0), 4);
        });
        sentence("NONE if it does not fit in any size: the longest text on the least wide plate", () -> {
            TrophyPlates x = withText(Shops.withPlates(10, 70, 71), "mwmwmwmwmwmw");
            due("largestSize(0)", x.largestSize(0), NONE);
            due("largestSize(1)", x.largestSize(1), NONE);
            due("largestSize(2)", x.largestSize(2), 1);
        });
        sentence("by its width alone: whatever its thickness, engraving and state are", () -> {
            TrophyPlates x = Shops.engraved(5, 1, 2);
            due("both sides are engraved", withText(x, "ab").largestSize(0), 1);
            x.spoil(0);
            due("spoiled", x.largestSize(0), 1);
            TrophyPlates y = Shops.atWork();
            due("at work", withText(y, "ab").largestSize(0), 2);
            y.work(600);
            due("on a shield", y.largestSize(0), 2);
        });
        sentence("it changes nothing", () -> {
            Sentence.changesNothing("largestSize(0)", Shops::busy, x -> x.largestSize(0), 2);
            Sentence.changesNothing("largestSize(0)", () -> withText(Shops.withPlates(10), "mmm"),
                x -> x.largestSize(0), NONE);
        });
    }
}

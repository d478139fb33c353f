/** Shops that the tests of the sentences begin with. */
final class Shops {
    private Shops() {
    }

    static void write(TrophyPlates x, String text) {
        for (char letter : text.toCharArray()) {
            x.append(letter);
        }
    }

    static int give(TrophyPlates x, String name, int shield, int year, int size, int depth, int rush) {
        write(x, name);
        return x.order(shield, year, size, depth, rush);
    }

    /** An order of one letter, of size and depth 1: 4 long, with an effort of 2. */
    static int giveSmall(TrophyPlates x, int shield, int year) {
        return give(x, "a", shield, year, 1, 1, 0);
    }

    /** A shield of two places, and plates 30 thick. */
    static TrophyPlates withPlates(int... widths) {
        TrophyPlates x = new TrophyPlates();
        x.addShield(2);
        for (int width : widths) {
            x.cut(width, 30);
        }
        return x;
    }

    static TrophyPlates withPlate(int width, int thickness) {
        TrophyPlates x = new TrophyPlates();
        x.addShield(2);
        x.cut(width, thickness);
        return x;
    }

    /** As many small plates. */
    static TrophyPlates withManyPlates(int number) {
        TrophyPlates x = new TrophyPlates();
        for (int plate = 0; plate < number; plate++) {
            x.cut(10, 5);
        }
        return x;
    }

    /** 20 plates that are alike, and a shield of two places. */
    static TrophyPlates withManyPlatesAndShield() {
        TrophyPlates x = withManyPlates(20);
        x.addShield(2);
        return x;
    }

    /** A shield of two places, and in the drawer a plate 10 wide, engraved in front. */
    static TrophyPlates engraved(int thickness, int front) {
        TrophyPlates x = withPlate(10, thickness);
        engraveNext(x, front);
        return x;
    }

    /** The same, engraved behind as well. */
    static TrophyPlates engraved(int thickness, int front, int back) {
        TrophyPlates x = engraved(thickness, front);
        engraveNext(x, back);
        return x;
    }

    /** Engraves the plate that is found for the depth and lays it into the drawer again. */
    static void engraveNext(TrophyPlates x, int depth) {
        give(x, "a", 0, 1, 1, depth, 0);
        if (x.work(600) != 1 || x.takeOff(0, 1) < 0) {
            throw new IllegalStateException("no plate has been engraved with " + depth);
        }
    }

    /** As many small orders for the years from 1, on the shield; there is no plate. */
    static TrophyPlates withOrders(int number) {
        TrophyPlates x = new TrophyPlates();
        x.addShield(6);
        for (int year = 1; year <= number; year++) {
            giveSmall(x, 0, year);
        }
        return x;
    }

    /** As many plates on the shield, for the years from 1. */
    static TrophyPlates onShield(int places, int number) {
        TrophyPlates x = new TrophyPlates();
        x.addShield(places);
        for (int year = 1; year <= number; year++) {
            x.cut(10, 30);
            giveSmall(x, 0, year);
            x.work(600);
        }
        return x;
    }

    /** Ten orders with an effort of 108 each, and a plate for each of them. */
    static TrophyPlates tenLongOnes() {
        TrophyPlates x = new TrophyPlates();
        x.addShield(5);
        x.addShield(5);
        for (int order = 0; order < 10; order++) {
            x.cut(140, 30);
            Shops.give(x, "iiiiiiiiiiii", order % 2, order + 1, 4, 5, 0);
        }
        return x;
    }

    /** One order of an effort of 12 for the year 7 at work on plate 0, with 5 minutes left. */
    static TrophyPlates atWork() {
        TrophyPlates x = withPlates(20);
        give(x, "abc", 0, 7, 1, 3, 0);
        x.work(7);
        return x;
    }

    /** Orders for the years 1 to 3; there is no plate for the first, and the second is at work with 3 minutes left. */
    static TrophyPlates secondAtWork() {
        TrophyPlates x = withPlates(10);
        give(x, "mmm", 0, 1, 1, 1, 0);
        give(x, "ab", 0, 2, 1, 1, 0);
        give(x, "c", 0, 3, 1, 1, 0);
        x.work(1);
        return x;
    }

    /** Two orders that differ in all they have, and plates for both; none has begun. */
    static TrophyPlates waiting() {
        TrophyPlates x = withPlates(200, 200);
        x.addShield(3);
        give(x, "ann", 1, 20, 3, 2, 1);
        give(x, "bo", 0, 30, 4, 5, 0);
        return x;
    }

    /**
     * A plate in each state (0 on shield 0 for the year 10, 1 at work, 2 and 4 in the drawer, 3 spoiled), a rush,
     * the order at work and a third one in the row, a text of two letters and as many states as there can be.
     */
    static TrophyPlates busy() {
        TrophyPlates x = new TrophyPlates();
        x.addShield(2);
        x.addShield(3);
        x.cut(20, 12);
        x.cut(40, 12);
        x.cut(60, 30);
        x.cut(10, 5);
        x.cut(100, 30);
        x.spoil(3);
        give(x, "ann", 0, 10, 1, 3, 0);
        x.work(12);
        give(x, "bob", 0, 20, 2, 2, 0);
        give(x, "cy", 1, 5, 1, 1, 0);
        x.work(5);
        give(x, "di", 1, 7, 1, 1, 1);
        write(x, "xy");
        return x;
    }

    /** 20 plates, 3 shields, 10 orders with one at work, 12 letters and 5 states. */
    static TrophyPlates full() {
        TrophyPlates x = withManyPlates(20);
        for (int shield = 0; shield < 3; shield++) {
            x.addShield(2 + shield);
        }
        for (int year = 1; year <= 10; year++) {
            giveSmall(x, year % 3, year);
        }
        x.work(1);
        write(x, "abcdefghijkl");
        return x;
    }
}

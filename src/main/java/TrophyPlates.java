/** An engraver's shop for perpetual shields; ../shared/DOC.md says what every call promises. */
public final class TrophyPlates {
    public static final int INVALID_ARGUMENT = -1;
    public static final int ILLEGAL_STATE = -2;
    public static final int CAPACITY_EXCEEDED = -3;
    public static final int NONE = -9;

    private static final int MOST_PLATES = 20;
    private static final int MOST_SHIELDS = 3;
    private static final int MOST_ORDERS = 10;
    private static final int MOST_LETTERS = 12;
    private static final int MOST_STATES = 5;
    private static final int MOST_MINUTES = 600;
    private static final int LAST_YEAR = 999;
    private static final int LARGEST_SIZE = 4;
    private static final int DEEPEST = 5;
    private static final int FIRST_LETTER = 97;
    private static final int LAST_LETTER = 122;
    private static final int LEAST_REST = 2;
    private static final int LOST_IN_GRINDING = 1;
    private static final int MINUTES_TO_GRIND = 10;
    private static final int MOVED_BASE = 100000;

    private static final int FRONT = 0;
    private static final int BACK = 1;
    private static final int BLANK = 0;

    private static final int IN_DRAWER = 0;
    private static final int AT_WORK = 1;
    private static final int ON_SHIELD = 2;
    private static final int SPOILED = 3;

    private static final int TURNED = 1;
    private static final int GROUND = 2;
    private static final int THROWN_AWAY = 3;

    private final Shop shop;
    private final History history;
    private final Name text;
    private final Forecast now;
    private final Forecast then;

    public TrophyPlates() {
        shop = new Shop();
        history = new History();
        text = new Name();
        Shop scratch = new Shop();
        now = new Forecast(scratch);
        then = new Forecast(scratch);
    }

    // ---- plates and shields

    public int cut(int width, int thickness) {
        if (!isWithin(width, 10, 200) || !isWithin(thickness, 5, 30)) {
            return INVALID_ARGUMENT;
        }
        if (shop.plateCount >= MOST_PLATES) {
            return CAPACITY_EXCEEDED;
        }
        history.record(shop);
        return shop.addPlate(width, thickness);
    }

    public int spoil(int plate) {
        if (!shop.hasPlate(plate)) {
            return INVALID_ARGUMENT;
        }
        Plate spoiled = shop.plates[plate];
        if (spoiled.state != IN_DRAWER) {
            return ILLEGAL_STATE;
        }
        history.record(shop);
        spoiled.state = SPOILED;
        return shop.platesIn(SPOILED);
    }

    public int grind(int plate, int side) {
        if (!shop.hasPlate(plate) || !isWithin(side, FRONT, BACK)) {
            return INVALID_ARGUMENT;
        }
        Plate ground = shop.plates[plate];
        if (ground.state != IN_DRAWER || !ground.canBeGround(side, 0)) {
            return ILLEGAL_STATE;
        }
        history.record(shop);
        shop.grindSide(ground, side);
        return ground.thickness;
    }

    public int addShield(int places) {
        if (!isWithin(places, 2, 6)) {
            return INVALID_ARGUMENT;
        }
        if (shop.shieldCount >= MOST_SHIELDS) {
            return CAPACITY_EXCEEDED;
        }
        history.record(shop);
        return shop.hangShield(places);
    }

    public int takeOff(int shield, int year) {
        if (!shop.hasShield(shield) || !isYear(year)) {
            return INVALID_ARGUMENT;
        }
        int taken = shop.plateOfYear(shield, year);
        if (!shop.hasPlate(taken)) {
            return ILLEGAL_STATE;
        }
        history.record(shop);
        shop.plates[taken].putIntoDrawer();
        return taken;
    }

    // ---- orders

    public int append(int letter) {
        if (!isWithin(letter, FIRST_LETTER, LAST_LETTER)) {
            return INVALID_ARGUMENT;
        }
        if (text.letterCount >= MOST_LETTERS) {
            return CAPACITY_EXCEEDED;
        }
        text.add(letter);
        return text.letterCount;
    }

    public int clearText() {
        int previous = text.letterCount;
        text.letterCount = 0;
        return previous;
    }

    public int order(int shield, int year, int size, int depth, int rush) {
        if (!shop.hasShield(shield) || !isYear(year) || !isSize(size) || !isDepth(depth) || !isWithin(rush, 0, 1)) {
            return INVALID_ARGUMENT;
        }
        if (text.letterCount == 0 || shop.plateOfYear(shield, year) != NONE || shop.isOrdered(shield, year)) {
            return ILLEGAL_STATE;
        }
        if (shop.orderCount >= MOST_ORDERS) {
            return CAPACITY_EXCEEDED;
        }
        history.record(shop);
        Order given = shop.row[shop.orderCount];
        given.name.copyFrom(text);
        given.shield = shield;
        given.year = year;
        given.size = size;
        given.depth = depth;
        given.rush = rush == 1;
        text.letterCount = 0;
        return shop.takeInOrder();
    }

    public int hurry(int order) {
        if (!shop.hasOrder(order)) {
            return INVALID_ARGUMENT;
        }
        if (shop.row[order].rush) {
            return ILLEGAL_STATE;
        }
        history.record(shop);
        return shop.makeRush(order);
    }

    public int cancel(int order) {
        if (!shop.hasOrder(order)) {
            return INVALID_ARGUMENT;
        }
        history.record(shop);
        shop.dropOrder(order);
        return shop.orderCount;
    }

    // ---- work

    public int work(int minutes) {
        if (!isWithin(minutes, 1, MOST_MINUTES)) {
            return INVALID_ARGUMENT;
        }
        history.record(shop);
        return shop.spendMinutes(minutes);
    }

    public int slip() {
        if (!shop.isWorking()) {
            return ILLEGAL_STATE;
        }
        history.record(shop);
        return shop.misspell();
    }

    public int undo() {
        if (history.stateCount <= 0) {
            return ILLEGAL_STATE;
        }
        history.restoreLatest(shop);
        return history.stateCount;
    }

    // ---- looking

    public int count(int what) {
        switch (what) {
            case 0:
            case 1:
            case 2:
            case 3:
                return shop.platesIn(what);
            case 4:
                return shop.plateCount;
            case 5:
                return shop.shieldCount;
            case 6:
                return shop.orderCount;
            case 7:
                return shop.rushes();
            case 8:
                return shop.orderAtWork;
            case 9:
                return shop.minutesLeft;
            case 10:
                return shop.plateAtWork;
            case 11:
                return shop.ordersDone;
            case 12:
                return shop.slips;
            case 13:
                return shop.sidesGround;
            case 14:
                return history.stateCount;
            case 15:
                return text.letterCount;
            default:
                return INVALID_ARGUMENT;
        }
    }

    public int plate(int plate, int what) {
        if (!shop.hasPlate(plate)) {
            return INVALID_ARGUMENT;
        }
        Plate asked = shop.plates[plate];
        switch (what) {
            case 0:
                return asked.width;
            case 1:
                return asked.thickness;
            case 2:
                return asked.state;
            case 3:
                return asked.front;
            case 4:
                return asked.back;
            case 5:
                return asked.shield;
            case 6:
                return asked.year;
            default:
                return INVALID_ARGUMENT;
        }
    }

    public int shield(int shield, int what) {
        if (!shop.hasShield(shield)) {
            return INVALID_ARGUMENT;
        }
        switch (what) {
            case 0:
                return shop.places[shield];
            case 1:
                return shop.platesOn(shield);
            case 2:
                return shop.earliestYear(shield);
            case 3:
                return shop.latestYear(shield);
            case 4:
                return shop.yearsLeftOut(shield);
            default:
                return INVALID_ARGUMENT;
        }
    }

    public int plateFor(int shield, int year) {
        if (!shop.hasShield(shield) || !isYear(year)) {
            return INVALID_ARGUMENT;
        }
        return shop.plateOfYear(shield, year);
    }

    public int orderOf(int order, int what) {
        if (!shop.hasOrder(order)) {
            return INVALID_ARGUMENT;
        }
        Order asked = shop.row[order];
        switch (what) {
            case 0:
                return asked.shield;
            case 1:
                return asked.year;
            case 2:
                return asked.size;
            case 3:
                return asked.depth;
            case 4:
                return asked.rush ? 1 : 0;
            case 5:
                return asked.name.letterCount;
            case 6:
                return asked.nameLength();
            case 7:
                return asked.effort();
            default:
                return INVALID_ARGUMENT;
        }
    }

    public int letter(int order, int index) {
        if (!shop.hasOrder(order) || index < 0) {
            return INVALID_ARGUMENT;
        }
        Name name = shop.row[order].name;
        return index < name.letterCount ? name.letters[index] : NONE;
    }

    // ---- forecasts, which change nothing

    public int lengthOf(int size) {
        return isSize(size) ? text.lengthIn(size) : INVALID_ARGUMENT;
    }

    public int plateFound(int size, int depth, int what) {
        if (!isSize(size) || !isDepth(depth) || !isWithin(what, 0, 2)) {
            return INVALID_ARGUMENT;
        }
        if (text.letterCount == 0) {
            return ILLEGAL_STATE;
        }
        int found = shop.findPlate(text.lengthIn(size), depth);
        if (!shop.hasPlate(found)) {
            return NONE;
        }
        int side = shop.plates[found].sideFor(depth);
        switch (what) {
            case 0:
                return found;
            case 1:
                return side;
            default:
                return shop.plates[found].isBlank(side) ? 0 : 1;
        }
    }

    public int doneIn(int order) {
        if (!shop.hasOrder(order)) {
            return INVALID_ARGUMENT;
        }
        now.foresee(shop, NONE);
        return now.doneIn[order];
    }

    public int moved(int order) {
        if (!shop.hasOrder(order)) {
            return INVALID_ARGUMENT;
        }
        if (shop.row[order].rush) {
            return ILLEGAL_STATE;
        }
        now.foresee(shop, NONE);
        then.foresee(shop, order);
        int sum = MOVED_BASE;
        for (int each = 0; each < shop.orderCount; each++) {
            if (now.doneIn[each] == NONE || then.doneIn[each] == NONE) {
                return NONE;
            }
            if (each != order) {
                sum += then.doneIn[each] - now.doneIn[each];
            }
        }
        return sum;
    }

    public int largestSize(int plate) {
        if (!shop.hasPlate(plate)) {
            return INVALID_ARGUMENT;
        }
        if (text.letterCount == 0) {
            return ILLEGAL_STATE;
        }
        for (int size = LARGEST_SIZE; size >= 1; size--) {
            if (text.lengthIn(size) <= shop.plates[plate].width) {
                return size;
            }
        }
        return NONE;
    }

    private static boolean isWithin(int number, int least, int most) {
        return number >= least && number <= most;
    }

    private static boolean isYear(int year) {
        return isWithin(year, 1, LAST_YEAR);
    }

    private static boolean isSize(int size) {
        return isWithin(size, 1, LARGEST_SIZE);
    }

    private static boolean isDepth(int depth) {
        return isWithin(depth, 1, DEEPEST);
    }

    /** A row of up to 12 letters: the text, or the name in an order. */
    private static final class Name {
        final int[] letters = new int[MOST_LETTERS];
        int letterCount;

        void add(int letter) {
            if (letterCount < MOST_LETTERS) {
                letters[letterCount] = letter;
                letterCount++;
            }
        }

        void copyFrom(Name other) {
            letterCount = other.letterCount;
            for (int index = 0; index < MOST_LETTERS; index++) {
                letters[index] = other.letters[index];
            }
        }

        int lengthIn(int size) {
            if (letterCount == 0) {
                return 0;
            }
            int gaps = letterCount - 1;
            int length = gaps;
            for (int index = 0; index < letterCount; index++) {
                length += widthOf(letters[index]);
            }
            return length * size;
        }

        static int widthOf(int letter) {
            switch (letter) {
                case 'f':
                case 'i':
                case 'j':
                case 'l':
                case 'r':
                case 't':
                    return 2;
                case 'm':
                case 'w':
                    return 5;
                default:
                    return 4;
            }
        }
    }

    /** A plate; the depth of a blank side is BLANK, so that it can always be taken off the thickness. */
    private static final class Plate {
        int width;
        int thickness;
        int state;
        int front;
        int back;
        int shield;
        int year;

        void makeNew(int newWidth, int newThickness) {
            width = newWidth;
            thickness = newThickness;
            front = BLANK;
            back = BLANK;
            putIntoDrawer();
        }

        void copyFrom(Plate other) {
            width = other.width;
            thickness = other.thickness;
            state = other.state;
            front = other.front;
            back = other.back;
            shield = other.shield;
            year = other.year;
        }

        void putIntoDrawer() {
            state = IN_DRAWER;
            shield = NONE;
            year = NONE;
        }

        void fixOn(int newShield, int newYear) {
            state = ON_SHIELD;
            shield = newShield;
            year = newYear;
        }

        int depthOf(int side) {
            return side == FRONT ? front : back;
        }

        boolean isBlank(int side) {
            return depthOf(side) == BLANK;
        }

        void engrave(int side, int depth) {
            if (side == FRONT) {
                front = depth;
            } else {
                back = depth;
            }
        }

        void grindOff(int side) {
            thickness -= depthOf(side) + LOST_IN_GRINDING;
            engrave(side, BLANK);
        }

        /** As a blank side counts as 0, the other side's depth is the sum of both when this one is blank. */
        boolean bears(int depth) {
            return thickness - front - back - depth >= LEAST_REST;
        }

        /** Grinding takes the side's depth off the thickness, so the sum of both still tells what is lost. */
        boolean bearsOnceGround(int depth) {
            return bears(depth + LOST_IN_GRINDING);
        }

        boolean isReady(int side, int depth) {
            return isBlank(side) && bears(depth);
        }

        boolean canBeGround(int side, int depth) {
            return !isBlank(side) && bearsOnceGround(depth);
        }

        int readySide(int depth) {
            if (!bears(depth)) {
                return NONE;
            }
            if (front == BLANK) {
                return FRONT;
            }
            return back == BLANK ? BACK : NONE;
        }

        int sideToGrind(int depth) {
            if (!bearsOnceGround(depth)) {
                return NONE;
            }
            if (front != BLANK) {
                return FRONT;
            }
            return back != BLANK ? BACK : NONE;
        }

        int sideFor(int depth) {
            int ready = readySide(depth);
            return ready == NONE ? sideToGrind(depth) : ready;
        }

        boolean isBetterThan(Plate other) {
            return width < other.width || (width == other.width && thickness < other.thickness);
        }
    }

    /** An order in the row. */
    private static final class Order {
        final Name name = new Name();
        int shield;
        int year;
        int size;
        int depth;
        boolean rush;
        /** Its number when a forecast begins: the row moves while the forecast works it off. */
        int numberBefore;

        void copyFrom(Order other) {
            name.copyFrom(other.name);
            shield = other.shield;
            year = other.year;
            size = other.size;
            depth = other.depth;
            rush = other.rush;
        }

        int nameLength() {
            return name.lengthIn(size);
        }

        int effort() {
            return name.letterCount * (size + depth);
        }
    }

    /** All that a state of the history holds. */
    private static final class Shop {
        final Plate[] plates = new Plate[MOST_PLATES];
        final int[] places = new int[MOST_SHIELDS];
        final Order[] row = new Order[MOST_ORDERS];
        int plateCount;
        int shieldCount;
        int orderCount;
        int orderAtWork = NONE;
        int plateAtWork = NONE;
        int sideAtWork = NONE;
        int minutesLeft = NONE;
        int ordersDone;
        int slips;
        int sidesGround;

        Shop() {
            for (int plate = 0; plate < MOST_PLATES; plate++) {
                plates[plate] = new Plate();
            }
            for (int order = 0; order < MOST_ORDERS; order++) {
                row[order] = new Order();
            }
        }

        void copyFrom(Shop other) {
            plateCount = other.plateCount;
            for (int plate = 0; plate < plateCount; plate++) {
                plates[plate].copyFrom(other.plates[plate]);
            }
            shieldCount = other.shieldCount;
            for (int shield = 0; shield < shieldCount; shield++) {
                places[shield] = other.places[shield];
            }
            orderCount = other.orderCount;
            for (int order = 0; order < orderCount; order++) {
                row[order].copyFrom(other.row[order]);
            }
            orderAtWork = other.orderAtWork;
            plateAtWork = other.plateAtWork;
            sideAtWork = other.sideAtWork;
            minutesLeft = other.minutesLeft;
            ordersDone = other.ordersDone;
            slips = other.slips;
            sidesGround = other.sidesGround;
        }

        boolean hasPlate(int plate) {
            return plate >= 0 && plate < plateCount;
        }

        boolean hasShield(int shield) {
            return shield >= 0 && shield < shieldCount;
        }

        boolean hasOrder(int order) {
            return order >= 0 && order < orderCount;
        }

        boolean isWorking() {
            return hasOrder(orderAtWork) && hasPlate(plateAtWork);
        }

        int addPlate(int width, int thickness) {
            plates[plateCount].makeNew(width, thickness);
            plateCount++;
            return plateCount - 1;
        }

        int hangShield(int newPlaces) {
            places[shieldCount] = newPlaces;
            shieldCount++;
            return shieldCount - 1;
        }

        void grindSide(Plate plate, int side) {
            plate.grindOff(side);
            sidesGround++;
        }

        int platesIn(int state) {
            int found = 0;
            for (int plate = 0; plate < plateCount; plate++) {
                if (plates[plate].state == state) {
                    found++;
                }
            }
            return found;
        }

        int platesOn(int shield) {
            int found = 0;
            for (int plate = 0; plate < plateCount; plate++) {
                if (plates[plate].shield == shield) {
                    found++;
                }
            }
            return found;
        }

        int plateOfYear(int shield, int year) {
            for (int plate = 0; plate < plateCount; plate++) {
                if (plates[plate].shield == shield && plates[plate].year == year) {
                    return plate;
                }
            }
            return NONE;
        }

        int earliestYear(int shield) {
            int earliest = NONE;
            for (int plate = 0; plate < plateCount; plate++) {
                int year = plates[plate].year;
                if (plates[plate].shield == shield && (earliest == NONE || year < earliest)) {
                    earliest = year;
                }
            }
            return earliest;
        }

        int latestYear(int shield) {
            int latest = NONE;
            for (int plate = 0; plate < plateCount; plate++) {
                int year = plates[plate].year;
                if (plates[plate].shield == shield && (latest == NONE || year > latest)) {
                    latest = year;
                }
            }
            return latest;
        }

        int yearsLeftOut(int shield) {
            int fixed = platesOn(shield);
            return fixed == 0 ? 0 : latestYear(shield) - earliestYear(shield) + 1 - fixed;
        }

        void fixPlate(Plate plate, int shield, int year) {
            plate.fixOn(shield, year);
            if (hasShield(shield) && platesOn(shield) > places[shield]) {
                int earliest = plateOfYear(shield, earliestYear(shield));
                if (hasPlate(earliest)) {
                    plates[earliest].putIntoDrawer();
                }
            }
        }

        /** A plate with a ready side goes ahead of every plate that must be ground, however wide it is. */
        int findPlate(int length, int depth) {
            int ready = bestPlate(length, depth, false);
            return ready == NONE ? bestPlate(length, depth, true) : ready;
        }

        int bestPlate(int length, int depth, boolean toGrind) {
            int best = NONE;
            for (int number = 0; number < plateCount; number++) {
                Plate plate = plates[number];
                int side = toGrind ? plate.sideToGrind(depth) : plate.readySide(depth);
                boolean fits = plate.state == IN_DRAWER && plate.width >= length && side != NONE;
                if (fits && (best == NONE || plate.isBetterThan(plates[best]))) {
                    best = number;
                }
            }
            return best;
        }

        int rushes() {
            int found = 0;
            for (int order = 0; order < orderCount; order++) {
                if (row[order].rush) {
                    found++;
                }
            }
            return found;
        }

        boolean isOrdered(int shield, int year) {
            for (int order = 0; order < orderCount; order++) {
                if (row[order].shield == shield && row[order].year == year) {
                    return true;
                }
            }
            return false;
        }

        /** Takes in the order that was written behind the row's end; answers its number. */
        int takeInOrder() {
            int last = orderCount;
            int number = row[last].rush ? rushes() : last;
            orderCount++;
            moveAhead(last, number);
            return number;
        }

        int makeRush(int order) {
            int number = rushes();
            row[order].rush = true;
            moveAhead(order, number);
            return number;
        }

        /** The order at work is the same one after the move, so its number moves with it. */
        void moveAhead(int from, int to) {
            Order mover = row[from];
            for (int order = from; order > to; order--) {
                row[order] = row[order - 1];
            }
            row[to] = mover;
            if (orderAtWork == from) {
                orderAtWork = to;
            } else if (orderAtWork >= to && orderAtWork < from) {
                orderAtWork++;
            }
        }

        void dropOrder(int order) {
            if (order == orderAtWork && isWorking()) {
                plates[plateAtWork].putIntoDrawer();
                stopWork();
            }
            removeOrder(order);
        }

        /** The removed object goes behind the row's end, where the next order is written into it. */
        void removeOrder(int number) {
            Order removed = row[number];
            for (int order = number; order < orderCount - 1; order++) {
                row[order] = row[order + 1];
            }
            orderCount--;
            row[orderCount] = removed;
            if (orderAtWork > number) {
                orderAtWork--;
            }
        }

        void stopWork() {
            orderAtWork = NONE;
            plateAtWork = NONE;
            sideAtWork = NONE;
            minutesLeft = NONE;
        }

        int spendMinutes(int minutes) {
            int before = ordersDone;
            int rest = minutes;
            // A turn takes an order off the row or uses up the minutes, so the turns are few.
            for (int turn = 0; turn <= MOST_ORDERS && rest > 0 && takesUpWork(); turn++) {
                int spent = Math.min(rest, minutesLeft);
                rest -= spent;
                minutesLeft -= spent;
                if (minutesLeft == 0) {
                    finishOrder();
                }
            }
            return ordersDone - before;
        }

        /** Begins the next order if none is at work; answers if one is at work then. */
        boolean takesUpWork() {
            for (int order = 0; order < orderCount && !isWorking(); order++) {
                int found = findPlate(row[order].nameLength(), row[order].depth);
                if (hasPlate(found)) {
                    beginOrder(order, found);
                }
            }
            return isWorking();
        }

        void beginOrder(int order, int number) {
            Plate plate = plates[number];
            orderAtWork = order;
            plateAtWork = number;
            sideAtWork = plate.sideFor(row[order].depth);
            minutesLeft = row[order].effort();
            plate.state = AT_WORK;
            if (!plate.isBlank(sideAtWork)) {
                grindSide(plate, sideAtWork);
                minutesLeft += MINUTES_TO_GRIND;
            }
        }

        void finishOrder() {
            if (!isWorking()) {
                return;
            }
            Order finished = row[orderAtWork];
            Plate plate = plates[plateAtWork];
            plate.engrave(sideAtWork, finished.depth);
            fixPlate(plate, finished.shield, finished.year);
            int number = orderAtWork;
            stopWork();
            removeOrder(number);
            ordersDone++;
        }

        int misspell() {
            if (!isWorking()) {
                return ILLEGAL_STATE;
            }
            Order order = row[orderAtWork];
            Plate plate = plates[plateAtWork];
            plate.engrave(sideAtWork, order.depth);
            slips++;
            int other = sideAtWork == FRONT ? BACK : FRONT;
            if (plate.isReady(other, order.depth)) {
                sideAtWork = other;
                minutesLeft = order.effort();
                return TURNED;
            }
            if (plate.canBeGround(sideAtWork, order.depth)) {
                grindSide(plate, sideAtWork);
                minutesLeft = order.effort() + MINUTES_TO_GRIND;
                return GROUND;
            }
            plate.state = SPOILED;
            stopWork();
            return THROWN_AWAY;
        }
    }

    /** The latest states, the oldest first; their objects are made once and used again. */
    private static final class History {
        final Shop[] states = new Shop[MOST_STATES];
        int stateCount;

        History() {
            for (int state = 0; state < MOST_STATES; state++) {
                states[state] = new Shop();
            }
        }

        void record(Shop shop) {
            if (stateCount >= MOST_STATES) {
                dropOldest();
            }
            states[stateCount].copyFrom(shop);
            stateCount++;
        }

        void dropOldest() {
            Shop oldest = states[0];
            for (int state = 1; state < MOST_STATES; state++) {
                states[state - 1] = states[state];
            }
            states[MOST_STATES - 1] = oldest;
            stateCount--;
        }

        void restoreLatest(Shop shop) {
            if (stateCount > 0) {
                stateCount--;
                shop.copyFrom(states[stateCount]);
            }
        }
    }

    /** Works a copy of the shop to its end and notes when each order is done. */
    private static final class Forecast {
        final Shop copy;
        final int[] doneIn = new int[MOST_ORDERS];

        Forecast(Shop scratch) {
            copy = scratch;
        }

        /** The order hurried is made a rush first; NONE for none. */
        void foresee(Shop shop, int hurried) {
            copy.copyFrom(shop);
            for (int order = 0; order < MOST_ORDERS; order++) {
                copy.row[order].numberBefore = order;
                doneIn[order] = NONE;
            }
            if (copy.hasOrder(hurried)) {
                copy.makeRush(hurried);
            }
            int minutes = 0;
            for (int turn = 0; turn < MOST_ORDERS && copy.takesUpWork(); turn++) {
                minutes += copy.minutesLeft;
                doneIn[copy.row[copy.orderAtWork].numberBefore] = minutes;
                copy.finishOrder();
            }
        }
    }
}

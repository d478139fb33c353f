import java.util.ArrayDeque;
import java.util.ArrayList;
import java.util.Comparator;
import java.util.Deque;
import java.util.HashMap;
import java.util.List;
import java.util.Map;
import java.util.Optional;
import java.util.stream.IntStream;

/**
 * The document a second time, written from its words alone and by other means (copies, streams, sets of
 * optional depths), so that ReferenceRuns can hold TrophyPlates against it.
 */
final class ReferenceShop {
    private static final int INVALID = -1, ILLEGAL = -2, FULL = -3, NONE = -9;

    private enum Where { DRAWER, WORK, SHIELD, SPOILED }

    private static final class P {
        int number, width, thickness;
        Where where = Where.DRAWER;
        Integer[] sides = new Integer[2];
        Integer shield, year;

        P copy() {
            P p = new P();
            p.number = number; p.width = width; p.thickness = thickness; p.where = where;
            p.sides = sides.clone(); p.shield = shield; p.year = year;
            return p;
        }
        boolean ready(int side, int depth) {
            if (sides[side] != null) return false;
            int rest = thickness - depth;
            if (sides[1 - side] != null) rest -= sides[1 - side];
            return rest >= 2;
        }
        boolean groundReady(int side, int depth) {
            if (sides[side] == null) return false;
            P p = copy();
            p.grind(side);
            return p.ready(side, depth);
        }
        void grind(int side) {
            thickness = thickness - sides[side] - 1;
            sides[side] = null;
        }
        void toDrawer() { where = Where.DRAWER; shield = null; year = null; }
    }

    private record O(int id, int shield, int year, int size, int depth, boolean rush, String name) {
        int length() { return lengthOf(name, size); }
        int effort() { return name.length() * (size + depth); }
        O rushed() { return new O(id, shield, year, size, depth, true, name); }
    }

    private record Choice(P plate, int side, boolean grind) { }

    private static final class S {
        List<P> plates = new ArrayList<>();
        List<Integer> shields = new ArrayList<>();
        List<O> rushes = new ArrayList<>();
        List<O> others = new ArrayList<>();
        int nextId, done, slips, ground;
        Integer workId, workPlate, workSide, left;

        S copy() {
            S s = new S();
            for (P p : plates) s.plates.add(p.copy());
            s.shields.addAll(shields); s.rushes.addAll(rushes); s.others.addAll(others);
            s.nextId = nextId; s.done = done; s.slips = slips; s.ground = ground;
            s.workId = workId; s.workPlate = workPlate; s.workSide = workSide; s.left = left;
            return s;
        }
        List<O> row() {
            List<O> row = new ArrayList<>(rushes);
            row.addAll(others);
            return row;
        }
        int indexOf(int id) {
            List<O> row = row();
            return IntStream.range(0, row.size()).filter(i -> row.get(i).id() == id).findFirst().orElse(NONE);
        }
        O atWork() { return row().get(indexOf(workId)); }
        void remove(int id) { rushes.removeIf(o -> o.id() == id); others.removeIf(o -> o.id() == id); }
        void idle() { workId = null; workPlate = null; workSide = null; left = null; }
        List<P> on(int shield) { return plates.stream().filter(p -> p.shield != null && p.shield == shield).toList(); }
        Optional<P> at(int shield, int year) { return on(shield).stream().filter(p -> p.year == year).findFirst(); }

        Choice choose(int length, int depth) {
            Comparator<P> best = Comparator.comparingInt((P p) -> p.width).thenComparingInt(p -> p.thickness).thenComparingInt(p -> p.number);
            List<P> wide = plates.stream().filter(p -> p.where == Where.DRAWER && p.width >= length).sorted(best).toList();
            for (P p : wide) for (int side = 0; side < 2; side++) if (p.ready(side, depth)) return new Choice(p, side, false);
            for (P p : wide) for (int side = 0; side < 2; side++) if (p.groundReady(side, depth)) return new Choice(p, side, true);
            return null;
        }
        boolean begin() {
            if (workId != null) return true;
            for (O o : row()) {
                Choice c = choose(o.length(), o.depth());
                if (c == null) continue;
                workId = o.id(); workPlate = c.plate().number; workSide = c.side(); left = o.effort();
                if (c.grind()) { c.plate().grind(c.side()); ground++; left += 10; }
                c.plate().where = Where.WORK;
                return true;
            }
            return false;
        }
        void complete() {
            O o = atWork();
            P p = plates.get(workPlate);
            p.sides[workSide] = o.depth();
            p.where = Where.SHIELD; p.shield = o.shield(); p.year = o.year();
            List<P> all = on(o.shield());
            if (all.size() > shields.get(o.shield())) all.stream().min(Comparator.comparingInt(q -> q.year)).get().toDrawer();
            remove(o.id());
            done++;
            idle();
        }
        /** Minute by minute, as a person would. */
        int minute() {
            if (!begin()) return NONE;
            left--;
            if (left > 0) return 0;
            complete();
            return 1;
        }
        void hurry(O o) { remove(o.id()); rushes.add(o.rushed()); }

        Map<Integer, Integer> forecast() {
            S s = copy();
            Map<Integer, Integer> ends = new HashMap<>();
            for (int t = 1; t < 5000; t++) {
                List<O> before = s.row();
                int answer = s.minute();
                if (answer == NONE) break;
                if (answer == 1) {
                    List<O> after = s.row();
                    for (O o : before) if (after.stream().noneMatch(q -> q.id() == o.id())) ends.put(o.id(), t);
                }
            }
            return ends;
        }
    }

    private S now = new S();
    private final Deque<S> history = new ArrayDeque<>();
    private String text = "";

    private static int lengthOf(String name, int size) {
        int sum = 0;
        for (char c : name.toCharArray()) sum += "fijlrt".indexOf(c) >= 0 ? 2 : "mw".indexOf(c) >= 0 ? 5 : 4;
        return name.isEmpty() ? 0 : (sum + name.length() - 1) * size;
    }
    private void record() {
        history.addLast(now.copy());
        if (history.size() > 5) history.removeFirst();
    }
    private static boolean in(int x, int a, int b) { return a <= x && x <= b; }
    private boolean noPlate(int p) { return !in(p, 0, now.plates.size() - 1); }
    private boolean noShield(int s) { return !in(s, 0, now.shields.size() - 1); }
    private boolean noOrder(int o) { return !in(o, 0, now.row().size() - 1); }
    private int plates(Where w) { return (int) now.plates.stream().filter(p -> p.where == w).count(); }
    private static int orNone(Integer x) { return x == null ? NONE : x; }

    int cut(int width, int thickness) {
        if (!in(width, 10, 200) || !in(thickness, 5, 30)) return INVALID;
        if (now.plates.size() == 20) return FULL;
        record();
        P p = new P();
        p.number = now.plates.size(); p.width = width; p.thickness = thickness;
        now.plates.add(p);
        return p.number;
    }
    int spoil(int plate) {
        if (noPlate(plate)) return INVALID;
        if (now.plates.get(plate).where != Where.DRAWER) return ILLEGAL;
        record();
        now.plates.get(plate).where = Where.SPOILED;
        return plates(Where.SPOILED);
    }
    int grind(int plate, int side) {
        if (noPlate(plate) || !in(side, 0, 1)) return INVALID;
        P p = now.plates.get(plate);
        if (p.where != Where.DRAWER || p.sides[side] == null) return ILLEGAL;
        P after = p.copy();
        after.grind(side);
        int other = after.sides[1 - side] == null ? 0 : after.sides[1 - side];
        if (after.thickness - other < 2) return ILLEGAL;
        record();
        p.grind(side);
        now.ground++;
        return p.thickness;
    }
    int addShield(int places) {
        if (!in(places, 2, 6)) return INVALID;
        if (now.shields.size() == 3) return FULL;
        record();
        now.shields.add(places);
        return now.shields.size() - 1;
    }
    int takeOff(int shield, int year) {
        if (noShield(shield) || !in(year, 1, 999)) return INVALID;
        if (now.at(shield, year).isEmpty()) return ILLEGAL;
        record();
        P p = now.at(shield, year).get();
        p.toDrawer();
        return p.number;
    }
    int append(int letter) {
        if (!in(letter, 'a', 'z')) return INVALID;
        if (text.length() == 12) return FULL;
        text += (char) letter;
        return text.length();
    }
    int clearText() {
        int n = text.length();
        text = "";
        return n;
    }
    int order(int shield, int year, int size, int depth, int rush) {
        if (noShield(shield) || !in(year, 1, 999) || !in(size, 1, 4) || !in(depth, 1, 5) || !in(rush, 0, 1)) return INVALID;
        boolean taken = now.at(shield, year).isPresent() || now.row().stream().anyMatch(o -> o.shield() == shield && o.year() == year);
        if (text.isEmpty() || taken) return ILLEGAL;
        if (now.row().size() == 10) return FULL;
        record();
        O o = new O(now.nextId++, shield, year, size, depth, rush == 1, text);
        (rush == 1 ? now.rushes : now.others).add(o);
        text = "";
        return now.indexOf(o.id());
    }
    int hurry(int order) {
        if (noOrder(order)) return INVALID;
        O o = now.row().get(order);
        if (o.rush()) return ILLEGAL;
        record();
        now.hurry(o);
        return now.indexOf(o.id());
    }
    int cancel(int order) {
        if (noOrder(order)) return INVALID;
        record();
        O o = now.row().get(order);
        if (now.workId != null && now.workId == o.id()) {
            now.plates.get(now.workPlate).toDrawer();
            now.idle();
        }
        now.remove(o.id());
        return now.row().size();
    }
    int work(int minutes) {
        if (!in(minutes, 1, 600)) return INVALID;
        record();
        int before = now.done;
        for (int t = 0; t < minutes; t++) if (now.minute() == NONE) break;
        return now.done - before;
    }
    int slip() {
        if (now.workId == null) return ILLEGAL;
        record();
        now.slips++;
        O o = now.atWork();
        P p = now.plates.get(now.workPlate);
        p.sides[now.workSide] = o.depth();
        if (p.ready(1 - now.workSide, o.depth())) {
            now.workSide = 1 - now.workSide;
            now.left = o.effort();
            return 1;
        }
        if (p.groundReady(now.workSide, o.depth())) {
            p.grind(now.workSide);
            now.ground++;
            now.left = o.effort() + 10;
            return 2;
        }
        p.where = Where.SPOILED;
        now.idle();
        return 3;
    }
    int undo() {
        if (history.isEmpty()) return ILLEGAL;
        now = history.removeLast();
        return history.size();
    }
    int count(int what) {
        if (!in(what, 0, 15)) return INVALID;
        if (what < 4) return plates(Where.values()[what]);
        int[] rest = {now.plates.size(), now.shields.size(), now.row().size(), now.rushes.size(),
            now.workId == null ? NONE : now.indexOf(now.workId), orNone(now.left), orNone(now.workPlate),
            now.done, now.slips, now.ground, history.size(), text.length()};
        return rest[what - 4];
    }
    int plate(int plate, int what) {
        if (noPlate(plate) || !in(what, 0, 6)) return INVALID;
        P p = now.plates.get(plate);
        int front = p.sides[0] == null ? 0 : p.sides[0];
        int back = p.sides[1] == null ? 0 : p.sides[1];
        return new int[] {p.width, p.thickness, p.where.ordinal(), front, back, orNone(p.shield), orNone(p.year)}[what];
    }
    int shield(int shield, int what) {
        if (noShield(shield) || !in(what, 0, 4)) return INVALID;
        List<Integer> years = now.on(shield).stream().map(p -> p.year).sorted().toList();
        if (what == 0) return now.shields.get(shield);
        if (what == 1) return years.size();
        if (years.isEmpty()) return what == 4 ? 0 : NONE;
        int first = years.get(0);
        int last = years.get(years.size() - 1);
        if (what == 2) return first;
        if (what == 3) return last;
        return (int) IntStream.range(first, last).filter(y -> !years.contains(y)).count();
    }
    int plateFor(int shield, int year) {
        if (noShield(shield) || !in(year, 1, 999)) return INVALID;
        return now.at(shield, year).map(p -> p.number).orElse(NONE);
    }
    int orderOf(int order, int what) {
        if (noOrder(order) || !in(what, 0, 7)) return INVALID;
        O o = now.row().get(order);
        return new int[] {o.shield(), o.year(), o.size(), o.depth(), o.rush() ? 1 : 0, o.name().length(), o.length(), o.effort()}[what];
    }
    int letter(int order, int index) {
        if (noOrder(order) || index < 0) return INVALID;
        String name = now.row().get(order).name();
        return index < name.length() ? name.charAt(index) : NONE;
    }
    int lengthOf(int size) {
        return in(size, 1, 4) ? lengthOf(text, size) : INVALID;
    }
    int plateFound(int size, int depth, int what) {
        if (!in(size, 1, 4) || !in(depth, 1, 5) || !in(what, 0, 2)) return INVALID;
        if (text.isEmpty()) return ILLEGAL;
        Choice c = now.choose(lengthOf(text, size), depth);
        if (c == null) return NONE;
        return what == 0 ? c.plate().number : what == 1 ? c.side() : c.grind() ? 1 : 0;
    }
    int doneIn(int order) {
        if (noOrder(order)) return INVALID;
        return now.forecast().getOrDefault(now.row().get(order).id(), NONE);
    }
    int moved(int order) {
        if (noOrder(order)) return INVALID;
        O hurried = now.row().get(order);
        if (hurried.rush()) return ILLEGAL;
        S hasty = now.copy();
        hasty.hurry(hurried);
        Map<Integer, Integer> without = now.forecast();
        Map<Integer, Integer> with = hasty.forecast();
        int n = now.row().size();
        if (without.size() < n || with.size() < n) return NONE;
        int sum = 100000;
        for (O o : now.row()) if (o.id() != hurried.id()) sum += with.get(o.id()) - without.get(o.id());
        return sum;
    }
    int largestSize(int plate) {
        if (noPlate(plate)) return INVALID;
        if (text.isEmpty()) return ILLEGAL;
        return IntStream.rangeClosed(1, 4).filter(s -> lengthOf(text, s) <= now.plates.get(plate).width).max().orElse(NONE);
    }
}

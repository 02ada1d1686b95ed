import java.util.ArrayList;
import java.util.Collection;
import java.util.Collections;
import java.util.Comparator;
import java.util.ConcurrentModificationException;
import java.util.LinkedHashMap;
import java.util.List;
import java.util.ListIterator;
import java.util.Map;
import java.util.NoSuchElementException;
import java.util.Set;
import java.util.TreeMap;

/** The document once more, on the language's own library: what RandomTest holds Viewhouse against. */
public final class Model {
    record Thing(int key, int mark) {
        @Override
        public int hashCode() {
            return 31 * key + mark;
        }
    }

    /** What a slot holds; held is a list, a map, a set of numbers or a collection of things of the library. */
    private static final class Pane {
        final char kind;
        final boolean isOpen;
        final Object held;
        final List<Thing> bottom;

        Pane(char kind, boolean isOpen, Object held, List<Thing> bottom) {
            this.kind = kind;
            this.isOpen = isOpen;
            this.held = held;
            this.bottom = bottom;
        }

        boolean isList() {
            return held instanceof List;
        }

        boolean isRow() {
            return isList() || kind == 'v';
        }

        boolean isMap() {
            return held instanceof Map;
        }

        boolean isKeys() {
            return kind == 'k';
        }

        @SuppressWarnings("unchecked")
        List<Thing> list() {
            return (List<Thing>) held;
        }

        @SuppressWarnings("unchecked")
        Collection<Thing> row() {
            return (Collection<Thing>) held;
        }

        @SuppressWarnings("unchecked")
        Map<Integer, Thing> map() {
            return (Map<Integer, Thing>) held;
        }

        @SuppressWarnings("unchecked")
        Set<Integer> keys() {
            return (Set<Integer>) held;
        }

        Collection<Integer> numbers() {
            return isMap() ? map().keySet() : keys();
        }

        int size() {
            return isMap() ? map().size() : ((Collection<?>) held).size();
        }
    }

    private final Pane[] slots = new Pane[12];

    public Model() {
        for (int s = 0; s < 2; s++) {
            List<Thing> list = new ArrayList<>();
            slots[s] = new Pane('l', true, list, list);
        }
        slots[2] = new Pane('m', true, new LinkedHashMap<Integer, Thing>(), null);
        slots[3] = new Pane('m', true, new TreeMap<Integer, Thing>(), null);
    }

    private static void paneSlot(int slot) {
        if (slot < 4 || slot > 11) {
            throw new IndexOutOfBoundsException();
        }
    }

    private Pane at(int slot) {
        if (slot < 0 || slot > 11) {
            throw new IndexOutOfBoundsException();
        }
        return slots[slot];
    }

    private static Pane need(boolean isThere, Pane pane) {
        if (!isThere) {
            throw new NoSuchElementException();
        }
        return pane;
    }

    private Pane any(int slot) {
        Pane pane = at(slot);
        return need(pane != null, pane);
    }

    private Pane listOf(int slot) {
        Pane pane = at(slot);
        return need(pane != null && pane.isList(), pane);
    }

    private Pane rowOf(int slot) {
        Pane pane = at(slot);
        return need(pane != null && pane.isRow(), pane);
    }

    private Pane mapOf(int slot) {
        Pane pane = at(slot);
        return need(pane != null && pane.isMap(), pane);
    }

    private Pane keysOf(int slot) {
        Pane pane = at(slot);
        return need(pane != null && pane.isKeys(), pane);
    }

    private Pane numbersOf(int slot) {
        Pane pane = at(slot);
        return need(pane != null && (pane.isMap() || pane.isKeys()), pane);
    }

    private static void open(Pane pane) {
        if (!pane.isOpen) {
            throw new UnsupportedOperationException();
        }
    }

    private static void legal(boolean isLegal) {
        if (!isLegal) {
            throw new IllegalArgumentException();
        }
    }

    private static void ready(boolean isReady) {
        if (!isReady) {
            throw new IllegalStateException();
        }
    }

    private static boolean isThing(int key, int mark) {
        return Math.abs((long) key) <= 999 && mark >= 0 && mark <= 99;
    }

    /** The library itself tells which parts are gone: they throw as soon as they are asked. */
    private void forgetGone() {
        for (int s = 4; s < 12; s++) {
            try {
                if (slots[s] != null) {
                    slots[s].size();
                }
            } catch (ConcurrentModificationException e) {
                slots[s] = null;
            }
        }
    }

    public int part(int slot, int of, int from, int to) {
        paneSlot(slot);
        Pane base = at(of);
        need(base != null && (base.kind == 'l' || base.kind == 'p'), base);
        legal(from >= 0 && from <= to && to <= base.size());
        slots[slot] = new Pane('p', true, base.list().subList(from, to), base.bottom);
        return slots[slot].size();
    }

    public int fixed(int slot, int of) {
        paneSlot(slot);
        Pane base = at(of);
        need(base != null && "lpm".indexOf(base.kind) >= 0, base);
        slots[slot] = base.kind == 'm'
                ? new Pane('F', false, Collections.unmodifiableMap(base.map()), null)
                : new Pane('f', false, Collections.unmodifiableList(base.list()), base.bottom);
        return slots[slot].size();
    }

    public int copies(int slot, int many, int key, int mark) {
        paneSlot(slot);
        legal(many >= 0 && many <= 24 && isThing(key, mark));
        slots[slot] = new Pane('c', false, Collections.nCopies(many, new Thing(key, mark)), null);
        return many;
    }

    public int alone(int slot, int key, int mark) {
        paneSlot(slot);
        legal(isThing(key, mark));
        slots[slot] = new Pane('a', false, Collections.singletonList(new Thing(key, mark)), null);
        return slots[slot].held.hashCode();
    }

    public int none(int slot) {
        paneSlot(slot);
        slots[slot] = new Pane('e', false, Collections.emptyList(), null);
        int held = 0;
        for (int s = 4; s < 12; s++) {
            held += slots[s] == null ? 0 : 1;
        }
        return held;
    }

    public int keys(int slot, int of) {
        paneSlot(slot);
        Pane map = mapOf(of);
        slots[slot] = new Pane('k', map.isOpen, map.map().keySet(), null);
        return map.size();
    }

    public int values(int slot, int of) {
        paneSlot(slot);
        Pane map = mapOf(of);
        slots[slot] = new Pane('v', map.isOpen, map.map().values(), null);
        return map.size();
    }

    public char kind(int slot) {
        Pane pane = at(slot);
        return pane == null ? '-' : pane.kind;
    }

    public int size(int slot) {
        return any(slot).size();
    }

    private static long walkOn(long sum, Pane pane, boolean isBack) {
        if (pane.isMap()) {
            for (Map.Entry<Integer, Thing> entry : pane.map().entrySet()) {
                sum = 31 * (31 * sum + entry.getKey()) + entry.getValue().hashCode();
            }
            return sum;
        }
        List<Object> all = new ArrayList<>((Collection<?>) pane.held);
        if (isBack) {
            Collections.reverse(all);
        }
        for (Object one : all) {
            sum = 31 * sum + one.hashCode();
        }
        return sum;
    }

    public long walk(int slot, boolean isBack) {
        Pane pane = any(slot);
        legal(!isBack || pane.isList());
        return walkOn(7, pane, isBack);
    }

    public boolean isSame(int slot, int other) {
        Pane one = at(slot);
        Pane two = at(other);
        need(one != null && two != null && (one.isList() && two.isList() || one.isKeys() && two.isKeys()
                || one.isMap() && two.isMap()), one);
        return one.held.equals(two.held);
    }

    public int hash(int slot) {
        Pane pane = any(slot);
        need(pane.kind != 'v', pane);
        return pane.held.hashCode();
    }

    private Thing thingAt(int slot, int place) {
        Pane pane = listOf(slot);
        legal(place >= 0 && place < pane.size());
        return pane.list().get(place);
    }

    public int keyAt(int slot, int place) {
        return thingAt(slot, place).key();
    }

    public int markAt(int slot, int place) {
        return thingAt(slot, place).mark();
    }

    public int placeOf(int slot, int key, int mark, boolean isLast) {
        List<Thing> list = listOf(slot).list();
        Thing thing = new Thing(key, mark);
        return isLast ? list.lastIndexOf(thing) : list.indexOf(thing);
    }

    public int put(int slot, int place, int key, int mark) {
        Pane pane = listOf(slot);
        open(pane);
        legal(place >= 0 && place <= pane.size() && isThing(key, mark));
        ready(pane.bottom.size() < 24);
        pane.list().add(place, new Thing(key, mark));
        forgetGone();
        return pane.size();
    }

    public int set(int slot, int place, int key, int mark) {
        Pane pane = listOf(slot);
        open(pane);
        legal(place >= 0 && place < pane.size() && isThing(key, mark));
        return pane.list().set(place, new Thing(key, mark)).hashCode();
    }

    public int take(int slot, int place) {
        Pane pane = listOf(slot);
        open(pane);
        legal(place >= 0 && place < pane.size());
        Thing gone = pane.list().remove(place);
        forgetGone();
        return gone.hashCode();
    }

    public boolean drop(int slot, int key, int mark) {
        Pane pane = rowOf(slot);
        open(pane);
        ready(pane.kind != 'v' || new java.util.HashSet<>(pane.row()).size() == pane.size());
        boolean wasThere = pane.row().remove(new Thing(key, mark));
        forgetGone();
        return wasThere;
    }

    public int wipe(int slot) {
        Pane pane = any(slot);
        open(pane);
        int size = pane.size();
        if (size > 0 && pane.isMap()) {
            pane.map().clear();
        } else if (size > 0) {
            ((Collection<?>) pane.held).clear();
        }
        forgetGone();
        return size;
    }

    public int putAll(int slot, int place, int other) {
        at(slot);
        at(other);
        Pane pane = listOf(slot);
        List<Thing> row = new ArrayList<>(rowOf(other).row());
        open(pane);
        legal(place >= 0 && place <= pane.size());
        ready(pane.bottom.size() + row.size() <= 24);
        if (!row.isEmpty()) {
            pane.list().addAll(place, row);
        }
        forgetGone();
        return pane.size();
    }

    public int keep(int slot, int other, boolean isKept) {
        at(slot);
        at(other);
        Pane pane = rowOf(slot);
        List<Thing> row = new ArrayList<>(rowOf(other).row());
        open(pane);
        int before = pane.size();
        if (isKept) {
            pane.row().retainAll(row);
        } else {
            pane.row().removeAll(row);
        }
        forgetGone();
        return before - pane.size();
    }

    public int strip(int slot, int by) {
        Pane pane = at(slot);
        need(pane != null && (pane.isRow() || pane.isKeys()), pane);
        open(pane);
        legal(by >= 2 && by <= 9);
        int before = pane.size();
        if (pane.isKeys()) {
            pane.keys().removeIf(number -> number % by == 0);
        } else {
            pane.row().removeIf(thing -> thing.key() % by == 0);
        }
        forgetGone();
        return before - pane.size();
    }

    public int weave(int slot, int key, int mark) {
        Pane pane = listOf(slot);
        open(pane);
        legal(isThing(key, mark));
        int many = (int) pane.list().stream().filter(thing -> thing.key() == key).count();
        ready(pane.bottom.size() + many <= 24);
        ListIterator<Thing> things = pane.list().listIterator();
        while (things.hasNext()) {
            if (things.next().key() == key) {
                things.add(new Thing(key, mark));
            }
        }
        forgetGone();
        return many;
    }

    public int raise(int slot, int by) {
        Pane pane = at(slot);
        need(pane != null && (pane.isList() || pane.isMap()), pane);
        open(pane);
        Collection<Thing> things = pane.isMap() ? pane.map().values() : pane.list();
        legal(by >= -9 && by <= 9 && things.stream().allMatch(t -> isThing(t.key() + by, t.mark())));
        if (pane.isMap()) {
            pane.map().replaceAll((number, thing) -> new Thing(thing.key() + by, thing.mark()));
        } else {
            ListIterator<Thing> places = pane.list().listIterator();
            while (places.hasNext()) {
                Thing thing = places.next();
                places.set(new Thing(thing.key() + by, thing.mark()));
            }
        }
        return pane.size();
    }

    public int sort(int slot, char way) {
        Pane pane = listOf(slot);
        open(pane);
        legal("kKmM".indexOf(way) >= 0);
        Comparator<Thing> order = Comparator.comparingInt(way == 'k' || way == 'K' ? Thing::key : Thing::mark);
        pane.list().sort(way == 'K' || way == 'M' ? order.reversed() : order);
        // The library's own parts don't let others go when they sort; one thing that comes and goes does.
        pane.list().add(new Thing(0, 0));
        pane.list().remove(pane.size() - 1);
        forgetGone();
        return pane.size();
    }

    public int search(int slot, int key) {
        List<Thing> list = listOf(slot).list();
        List<Thing> sorted = new ArrayList<>(list);
        Comparator<Thing> order = Comparator.comparingInt(Thing::key);
        sorted.sort(order);
        ready(sorted.stream().map(Thing::key).toList().equals(list.stream().map(Thing::key).toList()));
        int place = Collections.binarySearch(list, new Thing(key, 0), order);
        return place >= 0 ? 100 : place;
    }

    public int turn(int slot) {
        Pane pane = listOf(slot);
        open(pane);
        Collections.reverse(pane.list());
        return pane.size();
    }

    public int swap(int slot, int i, int j) {
        Pane pane = listOf(slot);
        open(pane);
        legal(i >= 0 && i < pane.size() && j >= 0 && j < pane.size());
        Collections.swap(pane.list(), i, j);
        return pane.size();
    }

    public int rotate(int slot, int by) {
        Pane pane = listOf(slot);
        open(pane);
        legal(by >= -100 && by <= 100);
        Collections.rotate(pane.list(), by);
        return pane.size();
    }

    public int fill(int slot, int key, int mark) {
        Pane pane = listOf(slot);
        open(pane);
        legal(isThing(key, mark));
        Collections.fill(pane.list(), new Thing(key, mark));
        return pane.size();
    }

    public int rowIn(int slot, int other, boolean isLast) {
        at(slot);
        at(other);
        List<Thing> list = listOf(slot).list();
        List<Thing> row = listOf(other).list();
        return isLast ? Collections.lastIndexOfSubList(list, row) : Collections.indexOfSubList(list, row);
    }

    public int often(int slot, int key, int mark) {
        return Collections.frequency(rowOf(slot).row(), new Thing(key, mark));
    }

    public boolean areApart(int slot, int other) {
        at(slot);
        at(other);
        return Collections.disjoint(rowOf(slot).row(), rowOf(other).row());
    }

    public int end(int slot, boolean isMost) {
        Pane pane = rowOf(slot);
        ready(pane.size() > 0);
        Comparator<Thing> order = Comparator.comparingInt(Thing::key);
        return (isMost ? Collections.max(pane.row(), order) : Collections.min(pane.row(), order)).key();
    }

    public boolean enter(int slot, int number, int key, int mark) {
        Pane pane = mapOf(slot);
        open(pane);
        legal(isThing(key, mark));
        ready(pane.map().containsKey(number) || pane.size() < 24);
        return pane.map().put(number, new Thing(key, mark)) != null;
    }

    public boolean strike(int slot, int number) {
        Pane pane = numbersOf(slot);
        open(pane);
        return pane.numbers().remove(number);
    }

    public boolean hasNumber(int slot, int number) {
        return numbersOf(slot).numbers().contains(number);
    }

    public int thingOf(int slot, int number) {
        Map<Integer, Thing> map = mapOf(slot).map();
        legal(map.containsKey(number));
        return map.get(number).hashCode();
    }

    public int numberAt(int slot, int place) {
        Pane pane = numbersOf(slot);
        legal(place >= 0 && place < pane.size());
        return new ArrayList<>(pane.numbers()).get(place);
    }

    public int keepKeys(int slot, int other, boolean isKept) {
        at(slot);
        at(other);
        Pane pane = keysOf(slot);
        List<Integer> row = new ArrayList<>(keysOf(other).keys());
        open(pane);
        int before = pane.size();
        if (isKept) {
            pane.keys().retainAll(row);
        } else {
            pane.keys().removeAll(row);
        }
        return before - pane.size();
    }

    public float share(int slot) {
        Collection<Thing> row = rowOf(slot).row();
        if (row.isEmpty()) {
            throw new ArithmeticException();
        }
        return (float) row.stream().filter(thing -> thing.key() > 0).count() / (float) row.size();
    }

    public double meanKey(int slot) {
        Collection<Thing> row = rowOf(slot).row();
        if (row.isEmpty()) {
            throw new ArithmeticException();
        }
        return (double) row.stream().mapToInt(Thing::key).sum() / (double) row.size();
    }

    public long checksum() {
        long sum = 7;
        for (int s = 0; s < 12; s++) {
            sum = 31 * sum + kind(s);
            if (slots[s] != null) {
                sum = walkOn(31 * sum + size(s), slots[s], false);
            }
        }
        return sum;
    }

    public boolean isSound() {
        return true;
    }
}

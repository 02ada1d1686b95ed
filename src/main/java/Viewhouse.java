import java.util.NoSuchElementException;

public final class Viewhouse {
    private static final int SLOTS = 12;
    private static final int FIRST_PANE = 4;
    private static final int LIMIT = 24;
    private static final int MOST_KEY = 999;
    private static final int MOST_MARK = 99;
    private static final int LEAST_STRIP = 2;
    private static final int MOST_STRIP = 9;
    private static final int MOST_RAISE = 9;
    private static final int MOST_ROTATE = 100;
    private static final int FOUND = 100;
    private static final long FIRST_SUM = 7L;

    private static final char LIST = 'l';
    private static final char MAP = 'm';
    private static final char PART = 'p';
    private static final char FIXED_LIST = 'f';
    private static final char FIXED_MAP = 'F';
    private static final char COPIES = 'c';
    private static final char ALONE = 'a';
    private static final char NONE = 'e';
    private static final char KEYS = 'k';
    private static final char VALUES = 'v';
    private static final char NOTHING = '-';

    private static final char RISING_KEYS = 'k';
    private static final char FALLING_KEYS = 'K';
    private static final char RISING_MARKS = 'm';
    private static final char FALLING_MARKS = 'M';

    private final Pane[] slots;
    // Made once and used again, as all calls share one room.
    private final Store ahead;
    private final boolean[] going;
    private final Checker checker;

    public Viewhouse() {
        slots = new Pane[SLOTS];
        slots[0] = new Pane(LIST, true, new Store(false), null);
        slots[1] = new Pane(LIST, true, new Store(false), null);
        slots[2] = new Pane(MAP, true, new Store(false), null);
        slots[3] = new Pane(MAP, true, new Store(true), null);
        ahead = new Store(false);
        going = new boolean[LIMIT];
        checker = new Checker();
    }

    // ---- panes

    public int part(int slot, int of, int from, int to)
            throws IndexOutOfBoundsException, NoSuchElementException, IllegalArgumentException {
        needPaneSlot(slot);
        Pane base = held(of);
        if (base == null || base.kind != LIST && base.kind != PART) {
            throw new NoSuchElementException();
        }
        if (from < 0 || from > to || to > base.count()) {
            throw new IllegalArgumentException();
        }
        Part part = new Part(base.part, base.first() + from, to - from);
        slots[slot] = new Pane(PART, true, base.store, part);
        return to - from;
    }

    public int fixed(int slot, int of) throws IndexOutOfBoundsException, NoSuchElementException {
        needPaneSlot(slot);
        Pane base = held(of);
        if (base == null || base.kind != LIST && base.kind != PART && base.kind != MAP) {
            throw new NoSuchElementException();
        }
        slots[slot] = new Pane(base.kind == MAP ? FIXED_MAP : FIXED_LIST, false, base.store, base.part);
        return base.count();
    }

    public int copies(int slot, int many, int key, int mark)
            throws IndexOutOfBoundsException, IllegalArgumentException {
        needPaneSlot(slot);
        if (many < 0 || many > LIMIT) {
            throw new IllegalArgumentException();
        }
        needThing(key, mark);
        slots[slot] = new Pane(COPIES, many, key, mark);
        return many;
    }

    public int alone(int slot, int key, int mark)
            throws IndexOutOfBoundsException, IllegalArgumentException {
        needPaneSlot(slot);
        needThing(key, mark);
        Pane pane = new Pane(ALONE, 1, key, mark);
        slots[slot] = pane;
        return pane.listHash();
    }

    public int none(int slot) throws IndexOutOfBoundsException {
        needPaneSlot(slot);
        slots[slot] = new Pane(NONE, 0, 0, 0);
        int held = 0;
        for (int s = FIRST_PANE; s < SLOTS; s++) {
            if (slots[s] != null) {
                held++;
            }
        }
        return held;
    }

    public int keys(int slot, int of) throws IndexOutOfBoundsException, NoSuchElementException {
        return lookOnMap(slot, of, KEYS);
    }

    public int values(int slot, int of) throws IndexOutOfBoundsException, NoSuchElementException {
        return lookOnMap(slot, of, VALUES);
    }

    private int lookOnMap(int slot, int of, char kind) {
        needPaneSlot(slot);
        Pane map = needMap(of);
        slots[slot] = new Pane(kind, map.isOpen, map.store, null);
        return map.count();
    }

    public char kind(int slot) throws IndexOutOfBoundsException {
        Pane pane = held(slot);
        return pane == null ? NOTHING : pane.kind;
    }

    // ---- asked of all

    public int size(int slot) throws IndexOutOfBoundsException, NoSuchElementException {
        return needSomething(slot).count();
    }

    public long walk(int slot, boolean isBack)
            throws IndexOutOfBoundsException, NoSuchElementException, IllegalArgumentException {
        Pane pane = needSomething(slot);
        if (isBack && !pane.isList()) {
            throw new IllegalArgumentException();
        }
        return pane.addAllTo(FIRST_SUM, isBack);
    }

    public boolean isSame(int slot, int other) throws IndexOutOfBoundsException, NoSuchElementException {
        Pane one = held(slot);
        Pane two = held(other);
        if (one == null || two == null) {
            throw new NoSuchElementException();
        }
        if (one.isList() && two.isList()) {
            return one.isListLike(two);
        }
        if (one.kind == KEYS && two.kind == KEYS) {
            return one.hasNumbersLike(two);
        }
        if (one.isMap() && two.isMap()) {
            return one.isMapLike(two);
        }
        throw new NoSuchElementException();
    }

    public int hash(int slot) throws IndexOutOfBoundsException, NoSuchElementException {
        Pane pane = needSomething(slot);
        if (pane.isList()) {
            return pane.listHash();
        }
        if (pane.kind == KEYS) {
            return pane.keysHash();
        }
        if (pane.isMap()) {
            return pane.mapHash();
        }
        throw new NoSuchElementException();
    }

    // ---- lists

    public int keyAt(int slot, int place)
            throws IndexOutOfBoundsException, NoSuchElementException, IllegalArgumentException {
        Pane list = needList(slot);
        needPlace(list, place);
        return list.keyOf(place);
    }

    public int markAt(int slot, int place)
            throws IndexOutOfBoundsException, NoSuchElementException, IllegalArgumentException {
        Pane list = needList(slot);
        needPlace(list, place);
        return list.markOf(place);
    }

    public int placeOf(int slot, int key, int mark, boolean isLast)
            throws IndexOutOfBoundsException, NoSuchElementException {
        return needList(slot).find(key, mark, isLast);
    }

    public int put(int slot, int place, int key, int mark)
            throws IndexOutOfBoundsException, NoSuchElementException, UnsupportedOperationException,
            IllegalArgumentException, IllegalStateException {
        Pane list = needList(slot);
        Store store = openStore(list);
        needPlaceToPut(list, place);
        needThing(key, mark);
        needRoom(store, 1);
        store.insert(list.first() + place, 0, key, mark);
        settle(list, 1);
        return list.count();
    }

    public int set(int slot, int place, int key, int mark)
            throws IndexOutOfBoundsException, NoSuchElementException, UnsupportedOperationException,
            IllegalArgumentException {
        Pane list = needList(slot);
        Store store = openStore(list);
        needPlace(list, place);
        needThing(key, mark);
        int old = list.hashOf(place);
        store.lay(list.first() + place, key, mark);
        return old;
    }

    public int take(int slot, int place)
            throws IndexOutOfBoundsException, NoSuchElementException, UnsupportedOperationException,
            IllegalArgumentException {
        Pane list = needList(slot);
        Store store = openStore(list);
        needPlace(list, place);
        int old = list.hashOf(place);
        store.remove(list.first() + place);
        settle(list, -1);
        return old;
    }

    public boolean drop(int slot, int key, int mark)
            throws IndexOutOfBoundsException, NoSuchElementException, UnsupportedOperationException,
            IllegalStateException {
        Pane row = needRow(slot);
        Store store = openStore(row);
        if (row.kind == VALUES && row.hasTwins()) {
            throw new IllegalStateException();
        }
        int place = row.find(key, mark, false);
        if (place < 0) {
            return false;
        }
        store.remove(row.first() + place);
        settle(row, -1);
        return true;
    }

    public int wipe(int slot)
            throws IndexOutOfBoundsException, NoSuchElementException, UnsupportedOperationException {
        Pane pane = needSomething(slot);
        Store store = openStore(pane);
        for (int i = 0; i < pane.count(); i++) {
            markGoing(i, true);
        }
        return removeGoing(pane, store);
    }

    public int putAll(int slot, int place, int other)
            throws IndexOutOfBoundsException, NoSuchElementException, UnsupportedOperationException,
            IllegalArgumentException, IllegalStateException {
        needSlots(slot, other);
        Pane list = needList(slot);
        Pane row = needRow(other);
        Store store = openStore(list);
        needPlaceToPut(list, place);
        needRoom(store, row.count());
        // The row may look on the very list that is changed.
        ahead.copyThings(row);
        for (int i = 0; i < ahead.count; i++) {
            store.insert(list.first() + place + i, 0, ahead.keyIn(i), ahead.markIn(i));
        }
        settle(list, ahead.count);
        return list.count();
    }

    public int keep(int slot, int other, boolean isKept)
            throws IndexOutOfBoundsException, NoSuchElementException, UnsupportedOperationException {
        needSlots(slot, other);
        Pane row = needRow(slot);
        Pane kept = needRow(other);
        Store store = openStore(row);
        for (int i = 0; i < row.count(); i++) {
            boolean isThere = kept.find(row.keyOf(i), row.markOf(i), false) >= 0;
            markGoing(i, isThere != isKept);
        }
        return removeGoing(row, store);
    }

    public int strip(int slot, int by)
            throws IndexOutOfBoundsException, NoSuchElementException, UnsupportedOperationException,
            IllegalArgumentException {
        Pane pane = held(slot);
        if (pane == null || !pane.isRow() && pane.kind != KEYS) {
            throw new NoSuchElementException();
        }
        Store store = openStore(pane);
        if (by < LEAST_STRIP || by > MOST_STRIP) {
            throw new IllegalArgumentException();
        }
        for (int i = 0; i < pane.count(); i++) {
            int number = pane.kind == KEYS ? pane.numberOf(i) : pane.keyOf(i);
            markGoing(i, number % by == 0);
        }
        return removeGoing(pane, store);
    }

    public int weave(int slot, int key, int mark)
            throws IndexOutOfBoundsException, NoSuchElementException, UnsupportedOperationException,
            IllegalArgumentException, IllegalStateException {
        Pane list = needList(slot);
        Store store = openStore(list);
        needThing(key, mark);
        int many = list.countKey(key);
        needRoom(store, many);
        // From the last one on, so that what comes moves none that is still to be looked at.
        for (int i = list.count() - 1; i >= 0; i--) {
            if (list.keyOf(i) == key) {
                store.insert(list.first() + i + 1, 0, key, mark);
            }
        }
        settle(list, many);
        return many;
    }

    public int raise(int slot, int by)
            throws IndexOutOfBoundsException, NoSuchElementException, UnsupportedOperationException,
            IllegalArgumentException {
        Pane pane = held(slot);
        if (pane == null || !pane.isList() && !pane.isMap()) {
            throw new NoSuchElementException();
        }
        Store store = openStore(pane);
        if (by < -MOST_RAISE || by > MOST_RAISE) {
            throw new IllegalArgumentException();
        }
        // All keys are looked at before one is raised: a refused call changes nothing.
        for (int i = 0; i < pane.count(); i++) {
            needThing(pane.keyOf(i) + by, pane.markOf(i));
        }
        for (int i = 0; i < pane.count(); i++) {
            store.lay(pane.first() + i, pane.keyOf(i) + by, pane.markOf(i));
        }
        return pane.count();
    }

    // ---- moved, searched, sorted

    public int sort(int slot, char way)
            throws IndexOutOfBoundsException, NoSuchElementException, UnsupportedOperationException,
            IllegalArgumentException {
        Pane list = needList(slot);
        Store store = openStore(list);
        if (way != RISING_KEYS && way != FALLING_KEYS && way != RISING_MARKS && way != FALLING_MARKS) {
            throw new IllegalArgumentException();
        }
        store.order(list.first(), list.count(), way);
        letPartsGo(list, store);
        return list.count();
    }

    public int search(int slot, int key)
            throws IndexOutOfBoundsException, NoSuchElementException, IllegalStateException {
        Pane list = needList(slot);
        if (!list.hasRisingKeys()) {
            throw new IllegalStateException();
        }
        return list.searchKey(key);
    }

    public int turn(int slot)
            throws IndexOutOfBoundsException, NoSuchElementException, UnsupportedOperationException {
        Pane list = needList(slot);
        openStore(list).reverse(list.first(), list.count());
        return list.count();
    }

    public int swap(int slot, int i, int j)
            throws IndexOutOfBoundsException, NoSuchElementException, UnsupportedOperationException,
            IllegalArgumentException {
        Pane list = needList(slot);
        Store store = openStore(list);
        needPlace(list, i);
        needPlace(list, j);
        store.exchange(list.first() + i, list.first() + j);
        return list.count();
    }

    public int rotate(int slot, int by)
            throws IndexOutOfBoundsException, NoSuchElementException, UnsupportedOperationException,
            IllegalArgumentException {
        Pane list = needList(slot);
        Store store = openStore(list);
        if (by < -MOST_ROTATE || by > MOST_ROTATE) {
            throw new IllegalArgumentException();
        }
        store.moveRound(list.first(), list.count(), by);
        return list.count();
    }

    public int fill(int slot, int key, int mark)
            throws IndexOutOfBoundsException, NoSuchElementException, UnsupportedOperationException,
            IllegalArgumentException {
        Pane list = needList(slot);
        Store store = openStore(list);
        needThing(key, mark);
        for (int i = 0; i < list.count(); i++) {
            store.lay(list.first() + i, key, mark);
        }
        return list.count();
    }

    public int rowIn(int slot, int other, boolean isLast)
            throws IndexOutOfBoundsException, NoSuchElementException {
        needSlots(slot, other);
        Pane list = needList(slot);
        Pane sought = needList(other);
        int last = list.count() - sought.count();
        for (int step = 0; step <= last; step++) {
            int place = isLast ? last - step : step;
            if (list.standsAt(place, sought)) {
                return place;
            }
        }
        return -1;
    }

    public int often(int slot, int key, int mark) throws IndexOutOfBoundsException, NoSuchElementException {
        Pane row = needRow(slot);
        int many = 0;
        for (int i = 0; i < row.count(); i++) {
            if (row.isThing(i, key, mark)) {
                many++;
            }
        }
        return many;
    }

    public boolean areApart(int slot, int other) throws IndexOutOfBoundsException, NoSuchElementException {
        needSlots(slot, other);
        Pane one = needRow(slot);
        Pane two = needRow(other);
        for (int i = 0; i < one.count(); i++) {
            if (two.find(one.keyOf(i), one.markOf(i), false) >= 0) {
                return false;
            }
        }
        return true;
    }

    public int end(int slot, boolean isMost)
            throws IndexOutOfBoundsException, NoSuchElementException, IllegalStateException {
        Pane row = needRow(slot);
        if (row.count() == 0) {
            throw new IllegalStateException();
        }
        int end = row.keyOf(0);
        for (int i = 1; i < row.count(); i++) {
            end = isMost ? Math.max(end, row.keyOf(i)) : Math.min(end, row.keyOf(i));
        }
        return end;
    }

    // ---- maps, keys

    public boolean enter(int slot, int number, int key, int mark)
            throws IndexOutOfBoundsException, NoSuchElementException, UnsupportedOperationException,
            IllegalArgumentException, IllegalStateException {
        Store store = openStore(needMap(slot));
        needThing(key, mark);
        int place = store.placeOfNumber(number);
        if (place >= 0) {
            store.lay(place, key, mark);
            return true;
        }
        needRoom(store, 1);
        store.insert(store.placeToEnter(number), number, key, mark);
        return false;
    }

    public boolean strike(int slot, int number)
            throws IndexOutOfBoundsException, NoSuchElementException, UnsupportedOperationException {
        Store store = openStore(needNumbers(slot));
        int place = store.placeOfNumber(number);
        store.remove(place);
        return place >= 0;
    }

    public boolean hasNumber(int slot, int number) throws IndexOutOfBoundsException, NoSuchElementException {
        return needNumbers(slot).findNumber(number) >= 0;
    }

    public int thingOf(int slot, int number)
            throws IndexOutOfBoundsException, NoSuchElementException, IllegalArgumentException {
        Pane map = needMap(slot);
        int place = map.findNumber(number);
        if (place < 0) {
            throw new IllegalArgumentException();
        }
        return map.hashOf(place);
    }

    public int numberAt(int slot, int place)
            throws IndexOutOfBoundsException, NoSuchElementException, IllegalArgumentException {
        Pane pane = needNumbers(slot);
        needPlace(pane, place);
        return pane.numberOf(place);
    }

    public int keepKeys(int slot, int other, boolean isKept)
            throws IndexOutOfBoundsException, NoSuchElementException, UnsupportedOperationException {
        needSlots(slot, other);
        Pane pane = needKeys(slot);
        Pane kept = needKeys(other);
        Store store = openStore(pane);
        for (int i = 0; i < pane.count(); i++) {
            boolean isThere = kept.findNumber(pane.numberOf(i)) >= 0;
            markGoing(i, isThere != isKept);
        }
        return removeGoing(pane, store);
    }

    // ---- figures

    public float share(int slot) throws IndexOutOfBoundsException, NoSuchElementException, ArithmeticException {
        Pane row = needRow(slot);
        int count = row.count();
        if (count == 0) {
            throw new ArithmeticException();
        }
        int above = 0;
        for (int i = 0; i < count; i++) {
            if (row.keyOf(i) > 0) {
                above++;
            }
        }
        return (float) above / (float) count;
    }

    public double meanKey(int slot)
            throws IndexOutOfBoundsException, NoSuchElementException, ArithmeticException {
        Pane row = needRow(slot);
        int count = row.count();
        if (count == 0) {
            throw new ArithmeticException();
        }
        int sum = 0;
        for (int i = 0; i < count; i++) {
            sum += row.keyOf(i);
        }
        return (double) sum / (double) count;
    }

    public long checksum() {
        long sum = FIRST_SUM;
        for (int s = 0; s < SLOTS; s++) {
            Pane pane = slots[s];
            if (pane == null) {
                sum = 31 * sum + NOTHING;
            } else {
                sum = 31 * sum + pane.kind;
                sum = 31 * sum + pane.count();
                sum = pane.addAllTo(sum, false);
            }
        }
        return sum;
    }

    public boolean isSound() {
        for (int s = 0; s < SLOTS; s++) {
            Pane pane = slots[s];
            if (pane != null && !(checker.isPaneSound(pane) && pane.looksOn(bottomOf(pane)))) {
                return false;
            }
            for (int t = 0; t < s; t++) {
                if (pane != null && slots[t] != null && !checker.isPairSound(pane, slots[t])) {
                    return false;
                }
            }
        }
        return true;
    }

    private Pane bottomOf(Pane pane) {
        for (int s = 0; s < FIRST_PANE; s++) {
            if (slots[s] != null && slots[s].store == pane.store) {
                return slots[s];
            }
        }
        return null;
    }

    // ---- what a call needs

    private static void needSlots(int slot, int other) {
        if (slot < 0 || slot >= SLOTS || other < 0 || other >= SLOTS) {
            throw new IndexOutOfBoundsException();
        }
    }

    private static void needPaneSlot(int slot) {
        if (slot < FIRST_PANE || slot >= SLOTS) {
            throw new IndexOutOfBoundsException();
        }
    }

    /** Returns null where a slot holds nothing. */
    private Pane held(int slot) {
        if (slot < 0 || slot >= SLOTS) {
            throw new IndexOutOfBoundsException();
        }
        return slots[slot];
    }

    private Pane needSomething(int slot) {
        Pane pane = held(slot);
        if (pane == null) {
            throw new NoSuchElementException();
        }
        return pane;
    }

    private Pane needList(int slot) {
        Pane pane = held(slot);
        if (pane == null || !pane.isList()) {
            throw new NoSuchElementException();
        }
        return pane;
    }

    private Pane needRow(int slot) {
        Pane pane = held(slot);
        if (pane == null || !pane.isRow()) {
            throw new NoSuchElementException();
        }
        return pane;
    }

    private Pane needMap(int slot) {
        Pane pane = held(slot);
        if (pane == null || !pane.isMap()) {
            throw new NoSuchElementException();
        }
        return pane;
    }

    private Pane needKeys(int slot) {
        Pane pane = held(slot);
        if (pane == null || pane.kind != KEYS) {
            throw new NoSuchElementException();
        }
        return pane;
    }

    private Pane needNumbers(int slot) {
        Pane pane = held(slot);
        if (pane == null || !pane.isMap() && pane.kind != KEYS) {
            throw new NoSuchElementException();
        }
        return pane;
    }

    private static Store openStore(Pane pane) {
        if (!pane.isOpen || pane.store == null) {
            throw new UnsupportedOperationException();
        }
        return pane.store;
    }

    private static void needPlace(Pane pane, int place) {
        if (place < 0 || place >= pane.count()) {
            throw new IllegalArgumentException();
        }
    }

    private static void needPlaceToPut(Pane pane, int place) {
        if (place < 0 || place > pane.count()) {
            throw new IllegalArgumentException();
        }
    }

    private static void needThing(int key, int mark) {
        if (key < -MOST_KEY || key > MOST_KEY || mark < 0 || mark > MOST_MARK) {
            throw new IllegalArgumentException();
        }
    }

    private static void needRoom(Store store, int more) {
        if (store.count + more > LIMIT) {
            throw new IllegalStateException();
        }
    }

    // ---- what a change does to the panes

    private void markGoing(int place, boolean isGoing) {
        if (place >= 0 && place < going.length) {
            going[place] = isGoing;
        }
    }

    private int removeGoing(Pane pane, Store store) {
        int gone = 0;
        for (int i = Math.min(pane.count(), going.length) - 1; i >= 0; i--) {
            if (going[i]) {
                store.remove(pane.first() + i);
                gone++;
            }
        }
        settle(pane, -gone);
        return gone;
    }

    /** To be called once the store at the bottom has its new length. */
    private void settle(Pane through, int more) {
        if (more == 0 || through.store == null) {
            return;
        }
        for (Part part = through.part; part != null; part = part.outer) {
            part.count += more;
        }
        letPartsGo(through, through.store);
    }

    /** The new count of changes tells the parts that stay from all others. */
    private void letPartsGo(Pane through, Store store) {
        store.changes++;
        for (Part part = through.part; part != null; part = part.outer) {
            part.changes = store.changes;
        }
        for (int s = FIRST_PANE; s < SLOTS; s++) {
            Pane pane = slots[s];
            if (pane != null && pane.store == store && pane.part != null
                    && pane.part.changes != store.changes) {
                slots[s] = null;
            }
        }
    }

    /** The things of a list or a map at the bottom, one behind the other, in a map each with its number. */
    private static final class Store {
        final int[] numbers;
        final int[] keys;
        final int[] marks;
        final boolean isRising;
        int count;
        /** How often this was sorted or changed its length. */
        int changes;

        Store(boolean isRising) {
            this.isRising = isRising;
            numbers = new int[LIMIT];
            keys = new int[LIMIT];
            marks = new int[LIMIT];
        }

        boolean hasPlace(int place) {
            return place >= 0 && place < count;
        }

        int numberIn(int place) {
            return place >= 0 && place < count ? numbers[place] : 0;
        }

        int keyIn(int place) {
            return place >= 0 && place < count ? keys[place] : 0;
        }

        int markIn(int place) {
            return place >= 0 && place < count ? marks[place] : 0;
        }

        void lay(int place, int key, int mark) {
            if (hasPlace(place)) {
                keys[place] = key;
                marks[place] = mark;
            }
        }

        void insert(int place, int number, int key, int mark) {
            if (place < 0 || place > count || count >= LIMIT) {
                return;
            }
            count++;
            for (int i = count - 1; i > place; i--) {
                move(i - 1, i);
            }
            numbers[place] = number;
            lay(place, key, mark);
        }

        void remove(int place) {
            if (!hasPlace(place)) {
                return;
            }
            for (int i = place + 1; i < count; i++) {
                move(i, i - 1);
            }
            count--;
        }

        private void move(int from, int to) {
            if (hasPlace(from) && hasPlace(to)) {
                numbers[to] = numbers[from];
                keys[to] = keys[from];
                marks[to] = marks[from];
            }
        }

        void exchange(int i, int j) {
            if (!hasPlace(i) || !hasPlace(j)) {
                return;
            }
            int number = numbers[i];
            int key = keys[i];
            int mark = marks[i];
            numbers[i] = numbers[j];
            keys[i] = keys[j];
            marks[i] = marks[j];
            numbers[j] = number;
            keys[j] = key;
            marks[j] = mark;
        }

        void reverse(int first, int many) {
            for (int i = 0; i < many / 2; i++) {
                exchange(first + i, first + many - 1 - i);
            }
        }

        void moveRound(int first, int many, int by) {
            if (many <= 0) {
                return;
            }
            int places = Math.floorMod(by, many);
            reverse(first, many);
            reverse(first, places);
            reverse(first + places, many - places);
        }

        /** Moves a thing only past greater ones, so that things alike in the order stay as they stand. */
        void order(int first, int many, char way) {
            for (int i = first + 1; i < first + many; i++) {
                for (int j = i; j > first && rank(j - 1, way) > rank(j, way); j--) {
                    exchange(j - 1, j);
                }
            }
        }

        private int rank(int place, char way) {
            int rank = way == RISING_KEYS || way == FALLING_KEYS ? keyIn(place) : markIn(place);
            return way == FALLING_KEYS || way == FALLING_MARKS ? -rank : rank;
        }

        int placeOfNumber(int number) {
            for (int i = 0; i < count; i++) {
                if (numberIn(i) == number) {
                    return i;
                }
            }
            return -1;
        }

        int placeToEnter(int number) {
            int place = count;
            while (isRising && place > 0 && numberIn(place - 1) > number) {
                place--;
            }
            return place;
        }

        /** Each thing's number is the place where it stood. */
        void copyThings(Pane row) {
            count = 0;
            for (int i = 0; i < row.count(); i++) {
                insert(i, i, row.keyOf(i), row.markOf(i));
            }
        }
    }

    /**
     * A stretch of a list. Its first place in the list at the bottom never moves: each change ahead
     * of it is done through a list or part that lets it go.
     */
    private static final class Part {
        final Part outer;
        final int first;
        int count;
        /** The store's count of changes as the last one was done through this or a part of this. */
        int changes;

        Part(Part outer, int first, int count) {
            this.outer = outer;
            this.first = first;
            this.count = count;
        }
    }

    /** What a slot holds: a store or a part of it, or, without a store, some copies of one thing. */
    private static final class Pane {
        final char kind;
        final boolean isOpen;
        final Store store;
        final Part part;
        final int copies;
        final int key;
        final int mark;

        Pane(char kind, boolean isOpen, Store store, Part part) {
            this.kind = kind;
            this.isOpen = isOpen;
            this.store = store;
            this.part = part;
            copies = 0;
            key = 0;
            mark = 0;
        }

        Pane(char kind, int copies, int key, int mark) {
            this.kind = kind;
            this.copies = copies;
            this.key = key;
            this.mark = mark;
            isOpen = false;
            store = null;
            part = null;
        }

        boolean isList() {
            return kind == LIST || kind == PART || kind == FIXED_LIST
                    || kind == COPIES || kind == ALONE || kind == NONE;
        }

        boolean isRow() {
            return isList() || kind == VALUES;
        }

        boolean isMap() {
            return kind == MAP || kind == FIXED_MAP;
        }

        int count() {
            if (store == null) {
                return copies;
            }
            return part == null ? store.count : part.count;
        }

        int first() {
            return part == null ? 0 : part.first;
        }

        int numberOf(int place) {
            return store == null ? 0 : store.numberIn(first() + place);
        }

        int keyOf(int place) {
            return store == null ? key : store.keyIn(first() + place);
        }

        int markOf(int place) {
            return store == null ? mark : store.markIn(first() + place);
        }

        int hashOf(int place) {
            return 31 * keyOf(place) + markOf(place);
        }

        boolean isThing(int place, int soughtKey, int soughtMark) {
            return keyOf(place) == soughtKey && markOf(place) == soughtMark;
        }

        boolean isAlike(int place, Pane other, int otherPlace) {
            return keyOf(place) == other.keyOf(otherPlace) && markOf(place) == other.markOf(otherPlace);
        }

        int find(int soughtKey, int soughtMark, boolean isLast) {
            int many = count();
            for (int step = 0; step < many; step++) {
                int place = isLast ? many - 1 - step : step;
                if (isThing(place, soughtKey, soughtMark)) {
                    return place;
                }
            }
            return -1;
        }

        int findNumber(int number) {
            return store == null ? -1 : store.placeOfNumber(number);
        }

        int countKey(int soughtKey) {
            int many = 0;
            for (int i = 0; i < count(); i++) {
                if (keyOf(i) == soughtKey) {
                    many++;
                }
            }
            return many;
        }

        boolean hasTwins() {
            for (int i = 0; i < count(); i++) {
                if (find(keyOf(i), markOf(i), true) != i) {
                    return true;
                }
            }
            return false;
        }

        boolean hasRisingKeys() {
            for (int i = 1; i < count(); i++) {
                if (keyOf(i) < keyOf(i - 1)) {
                    return false;
                }
            }
            return true;
        }

        /** Of a pane whose keys rise, or stay. */
        int searchKey(int soughtKey) {
            int less = 0;
            while (less < count() && keyOf(less) < soughtKey) {
                less++;
            }
            boolean isThere = less < count() && keyOf(less) == soughtKey;
            return isThere ? FOUND : -1 - less;
        }

        boolean standsAt(int place, Pane sought) {
            for (int i = 0; i < sought.count(); i++) {
                if (!isAlike(place + i, sought, i)) {
                    return false;
                }
            }
            return true;
        }

        long addAllTo(long sum, boolean isBack) {
            int many = count();
            for (int step = 0; step < many; step++) {
                int place = isBack ? many - 1 - step : step;
                if (isMap() || kind == KEYS) {
                    sum = 31 * sum + numberOf(place);
                }
                if (kind != KEYS) {
                    sum = 31 * sum + hashOf(place);
                }
            }
            return sum;
        }

        int listHash() {
            int hash = 1;
            for (int i = 0; i < count(); i++) {
                hash = 31 * hash + hashOf(i);
            }
            return hash;
        }

        int keysHash() {
            int hash = 0;
            for (int i = 0; i < count(); i++) {
                hash += numberOf(i);
            }
            return hash;
        }

        int mapHash() {
            int hash = 0;
            for (int i = 0; i < count(); i++) {
                hash += numberOf(i) ^ hashOf(i);
            }
            return hash;
        }

        boolean isListLike(Pane other) {
            return count() == other.count() && standsAt(0, other);
        }

        /** As no number comes twice, as many numbers that are all there are the same ones. */
        boolean hasNumbersLike(Pane other) {
            for (int i = 0; i < count(); i++) {
                if (other.findNumber(numberOf(i)) < 0) {
                    return false;
                }
            }
            return count() == other.count();
        }

        boolean isMapLike(Pane other) {
            for (int i = 0; i < count(); i++) {
                int place = other.findNumber(numberOf(i));
                if (place < 0 || !isAlike(i, other, place)) {
                    return false;
                }
            }
            return count() == other.count();
        }

        /** Tells whether this is just its stretch of the list or map at the bottom; null if it has none. */
        boolean looksOn(Pane bottom) {
            if (bottom == null) {
                return store == null;
            }
            if (part == null && count() != bottom.count() || !isPartWithin(bottom.count())) {
                return false;
            }
            for (int i = 0; i < count(); i++) {
                int place = first() + i;
                if (numberOf(i) != bottom.numberOf(place) || !isAlike(i, bottom, place)) {
                    return false;
                }
            }
            return true;
        }

        private boolean isPartWithin(int room) {
            if (part == null) {
                return true;
            }
            Part outer = part.outer;
            int least = outer == null ? 0 : outer.first;
            int most = outer == null ? room : outer.first + outer.count;
            return part.first >= least && part.count >= 0 && part.first + part.count <= most && most <= room;
        }
    }

    /** Checks the theorem of one list or map, and of two, moving things only in a copy. */
    private static final class Checker {
        private static final int SOME_PLACES = 5;

        private final Store store;
        private final Pane copy;

        Checker() {
            store = new Store(false);
            copy = new Pane(LIST, true, store, null);
        }

        boolean isPaneSound(Pane pane) {
            if (!pane.isList()) {
                return areNumbersSound(pane);
            }
            return isSortSound(pane, RISING_KEYS) && isSortSound(pane, FALLING_KEYS)
                    && isSortSound(pane, RISING_MARKS) && isSortSound(pane, FALLING_MARKS)
                    && isTurnSound(pane) && isRotateSound(pane) && isSearchSound(pane);
        }

        boolean isPairSound(Pane one, Pane two) {
            if (one.isList() && two.isList()) {
                boolean isSame = one.isListLike(two);
                return isSame == areAllPlacesAlike(one, two)
                        && (!isSame || one.listHash() == two.listHash());
            }
            if (one.isMap() && two.isMap()) {
                boolean isSame = one.isMapLike(two);
                return isSame == two.isMapLike(one) && (!isSame || one.mapHash() == two.mapHash());
            }
            return true;
        }

        private boolean areAllPlacesAlike(Pane one, Pane two) {
            int alike = 0;
            for (int i = 0; i < Math.min(one.count(), two.count()); i++) {
                if (one.isAlike(i, two, i)) {
                    alike++;
                }
            }
            return alike == one.count() && alike == two.count();
        }

        private boolean areNumbersSound(Pane pane) {
            for (int i = 0; i < pane.count(); i++) {
                if (pane.findNumber(pane.numberOf(i)) != i) {
                    return false;
                }
                if (i > 0 && pane.store != null && pane.store.isRising
                        && pane.numberOf(i - 1) >= pane.numberOf(i)) {
                    return false;
                }
            }
            return true;
        }

        private boolean isSortSound(Pane list, char way) {
            store.copyThings(list);
            store.order(0, store.count, way);
            int seen = 0;
            for (int i = 0; i < store.count; i++) {
                int from = store.numberIn(i);
                seen |= 1 << from;
                if (!copy.isAlike(i, list, from) || i > 0 && !isBehind(i, way)) {
                    return false;
                }
            }
            return store.count == list.count() && seen == (1 << list.count()) - 1;
        }

        private boolean isBehind(int place, char way) {
            boolean isByKeys = way == RISING_KEYS || way == FALLING_KEYS;
            int here = isByKeys ? store.keyIn(place) : store.markIn(place);
            int ahead = isByKeys ? store.keyIn(place - 1) : store.markIn(place - 1);
            if (here == ahead) {
                return store.numberIn(place - 1) < store.numberIn(place);
            }
            boolean isFalling = way == FALLING_KEYS || way == FALLING_MARKS;
            return isFalling == (here < ahead);
        }

        private boolean isTurnSound(Pane list) {
            int many = list.count();
            store.copyThings(list);
            store.reverse(0, many);
            for (int i = 0; i < many; i++) {
                if (!copy.isAlike(i, list, many - 1 - i)) {
                    return false;
                }
            }
            store.reverse(0, many);
            return copy.standsAt(0, list);
        }

        private boolean isRotateSound(Pane list) {
            int many = list.count();
            store.copyThings(list);
            store.moveRound(0, many, SOME_PLACES);
            for (int i = 0; i < many; i++) {
                if (!copy.isAlike((i + SOME_PLACES) % many, list, i)) {
                    return false;
                }
            }
            store.moveRound(0, many, -SOME_PLACES);
            return copy.standsAt(0, list);
        }

        private boolean isSearchSound(Pane list) {
            store.copyThings(list);
            store.order(0, store.count, RISING_KEYS);
            for (int i = 0; i < list.count(); i++) {
                int key = list.keyOf(i);
                if (copy.searchKey(key) != FOUND || copy.searchKey(key + 1) != countedSearch(list, key + 1)) {
                    return false;
                }
            }
            return true;
        }

        private int countedSearch(Pane list, int key) {
            int less = 0;
            for (int i = 0; i < list.count(); i++) {
                if (list.keyOf(i) < key) {
                    less++;
                }
            }
            return list.countKey(key) > 0 ? FOUND : -1 - less;
        }
    }
}

/** Promises 14 to 26: lists. */
public final class ListsTest {
    private static final Due DUE = new Due();

    public static void main(String[] args) {
        keyAtAndMarkAt();
        placeOf();
        put();
        set();
        take();
        drop();
        wipe();
        putAll();
        keep();
        strip();
        weave();
        raise();
        DUE.end();
    }

    private static void keyAtAndMarkAt() {
        Viewhouse house = Houses.allKinds();
        DUE.is("14: the first", 5, () -> house.keyAt(0, 0));
        DUE.is("14: of a part", 8, () -> house.keyAt(4, 1));
        DUE.is("14: of copies", 4, () -> house.keyAt(6, 1));
        DUE.is("15: the first", 1, () -> house.markAt(0, 0));
        DUE.is("15: of a part", 2, () -> house.markAt(4, 0));
        DUE.is("15: alone", 1, () -> house.markAt(7, 0));
        for (int place : new int[] {-1, 2, Integer.MAX_VALUE, Integer.MIN_VALUE}) {
            DUE.illegal("14: place " + place, house, () -> house.keyAt(4, place));
            DUE.illegal("15: place " + place, house, () -> house.markAt(4, place));
        }
        DUE.illegal("14: of none", house, () -> house.keyAt(8, 0));
        DUE.illegal("15: alone, place 1", house, () -> house.markAt(7, 1));
        for (int slot : new int[] {2, 3, 9, 10, 11}) {
            DUE.missing("14: slot " + slot, house, () -> house.keyAt(slot, -1));
            DUE.missing("15: slot " + slot, house, () -> house.markAt(slot, -1));
        }
        Viewhouse fresh = new Viewhouse();
        DUE.missing("14: nothing", fresh, () -> fresh.keyAt(4, 0));
        DUE.missing("15: nothing", fresh, () -> fresh.markAt(4, 0));
        DUE.slotless("14: -1", house, () -> house.keyAt(-1, -1));
        DUE.slotless("15: 12", house, () -> house.markAt(12, -1));
    }

    private static void placeOf() {
        Viewhouse house = Houses.listed(1, 1, 2, 2, 1, 1, 1, 2);
        house.part(4, 0, 1, 4);
        DUE.is("16: the first", 0, () -> house.placeOf(0, 1, 1, false));
        DUE.is("16: the last", 2, () -> house.placeOf(0, 1, 1, true));
        DUE.is("16: of a part", 1, () -> house.placeOf(4, 1, 1, false));
        DUE.is("16: none", -1, () -> house.placeOf(0, 2, 1, false));
        DUE.is("16: one with the same hash", -1, () -> house.placeOf(0, 0, 32, true));
        DUE.is("16: out of range", -1, () -> house.placeOf(0, 1000, -1, true));
        DUE.is("16: an empty list", -1, () -> house.placeOf(1, 0, 0, false));
        DUE.missing("16: a map", house, () -> house.placeOf(2, 1, 1, false));
        house.values(5, 2);
        DUE.missing("16: values", house, () -> house.placeOf(5, 1, 1, false));
        DUE.missing("16: nothing", house, () -> house.placeOf(6, 1, 1, false));
        DUE.slotless("16: 12", house, () -> house.placeOf(12, 1, 1, false));
    }

    private static void put() {
        Viewhouse house = new Viewhouse();
        DUE.is("17: the first", 1, () -> house.put(0, 0, 5, 1));
        DUE.is("17: behind", 2, () -> house.put(0, 1, -999, 0));
        DUE.is("17: between", 3, () -> house.put(0, 1, 999, 99));
        DUE.is("17: things", "5/1 999/99 -999/0 ", () -> Houses.things(house, 0));
        house.part(4, 0, 1, 2);
        DUE.is("17: at a part's end", 2, () -> house.put(4, 1, 7, 7));
        DUE.is("17: in the list", "5 999 7 -999 ", () -> Houses.keys(house, 0));
        DUE.illegal("17: place -1", house, () -> house.put(0, -1, 1, 1));
        DUE.illegal("17: place 5", house, () -> house.put(0, 5, 1, 1));
        DUE.illegal("17: place 3 of a part", house, () -> house.put(4, 3, 1, 1));
        DUE.illegal("17: key 1000", house, () -> house.put(0, 0, 1000, 1));
        DUE.illegal("17: key -1000", house, () -> house.put(0, 0, -1000, 1));
        DUE.illegal("17: mark 100", house, () -> house.put(0, 0, 1, 100));
        DUE.illegal("17: mark -1", house, () -> house.put(0, 0, 1, -1));
        Viewhouse full = Houses.full();
        full.part(4, 0, 3, 4);
        full.fixed(5, 0);
        DUE.unready("17: a full list", full, () -> full.put(0, 24, 1, 1));
        DUE.unready("17: a part of a full list", full, () -> full.put(4, 1, 1, 1));
        DUE.illegal("17: a full list, and no such place", full, () -> full.put(0, 25, 1, 1));
        DUE.illegal("17: a full list, and no such mark", full, () -> full.put(0, 0, 1, 100));
        DUE.fixed("17: a fixed one of a full list", full, () -> full.put(5, 25, 1, 1));
        DUE.refusesFixedLists(17, (house1, slot) -> house1.put(slot, -1, 1000, 1));
        DUE.refusesOthers(17, (house1, slot) -> house1.put(slot, -1, 1000, 1));
    }

    private static void set() {
        Viewhouse house = Houses.listed(5, 1, 3, 2, 8, 0);
        house.part(4, 0, 1, 3);
        DUE.is("18: the old hash", 156, () -> house.set(0, 0, 6, 2));
        DUE.is("18: of a part", 95, () -> house.set(4, 0, 3, 3));
        DUE.is("18: things", "6/2 3/3 8/0 ", () -> Houses.things(house, 0));
        DUE.is("18: no part goes", 'p', () -> house.kind(4));
        DUE.illegal("18: place -1", house, () -> house.set(0, -1, 1, 1));
        DUE.illegal("18: place 3", house, () -> house.set(0, 3, 1, 1));
        DUE.illegal("18: place 2 of a part", house, () -> house.set(4, 2, 1, 1));
        DUE.illegal("18: key 1000", house, () -> house.set(0, 0, 1000, 1));
        DUE.illegal("18: key -1000", house, () -> house.set(0, 0, -1000, 1));
        DUE.illegal("18: mark 100", house, () -> house.set(0, 0, 1, 100));
        DUE.illegal("18: mark -1", house, () -> house.set(0, 0, 1, -1));
        Viewhouse full = Houses.full();
        DUE.is("18: a full list", 23 * 32, () -> full.set(0, 23, 1, 1));
        DUE.refusesFixedLists(18, (house1, slot) -> house1.set(slot, 0, 1, 1));
        DUE.refusesOthers(18, (house1, slot) -> house1.set(slot, 0, 1, 1));
    }

    private static void take() {
        Viewhouse house = Houses.listed(5, 1, 3, 2, 8, 0, 9, 9);
        house.part(4, 0, 1, 3);
        DUE.is("19: of a part", 95, () -> house.take(4, 0));
        DUE.is("19: of the list", "5 8 9 ", () -> Houses.keys(house, 0));
        DUE.is("19: of the part", "8 ", () -> Houses.keys(house, 4));
        DUE.illegal("19: place 1 of the part", house, () -> house.take(4, 1));
        DUE.is("19: the last one", 288, () -> house.take(0, 2));
        DUE.illegal("19: place -1", house, () -> house.take(0, -1));
        DUE.illegal("19: place 2", house, () -> house.take(0, 2));
        DUE.illegal("19: an empty list", house, () -> house.take(1, 0));
        DUE.refusesFixedLists(19, (house1, slot) -> house1.take(slot, 9));
        DUE.refusesOthers(19, (house1, slot) -> house1.take(slot, 0));
    }

    private static void drop() {
        Viewhouse house = Houses.listed(1, 1, 2, 2, 1, 1, 1, 2, 1, 1);
        house.part(4, 0, 1, 4);
        DUE.is("20: of a part", true, () -> house.drop(4, 1, 1));
        DUE.is("20: the list then", "1/1 2/2 1/2 1/1 ", () -> Houses.things(house, 0));
        DUE.is("20: not in the part any more", false, () -> house.drop(4, 1, 1));
        DUE.is("20: the first one", true, () -> house.drop(0, 1, 1));
        DUE.is("20: the list then", "2/2 1/2 1/1 ", () -> Houses.things(house, 0));
        DUE.is("20: none", false, () -> house.drop(0, 2, 1));
        DUE.is("20: out of range", false, () -> house.drop(0, 1000, 100));
        Viewhouse map = Houses.mapped(2, 9, 4, 1, 3, 6, 2, 7, 4, 2);
        map.values(4, 2);
        map.keys(5, 2);
        DUE.is("20: of values", true, () -> map.drop(4, 6, 2));
        DUE.is("20: its number goes too", "9 7 ", () -> Houses.numbers(map, 5));
        DUE.is("20: not of values", false, () -> map.drop(4, 6, 2));
        map.enter(2, 1, 4, 1);
        DUE.unready("20: two values alike", map, () -> map.drop(4, 4, 1));
        DUE.unready("20: two values alike, and no such one", map, () -> map.drop(4, 6, 6));
        map.fixed(6, 2);
        map.values(7, 6);
        DUE.fixed("20: fixed values, two alike", map, () -> map.drop(7, 4, 1));
        DUE.missing("20: a map", map, () -> map.drop(2, 4, 1));
        DUE.missing("20: a fixed map", map, () -> map.drop(6, 4, 1));
        DUE.missing("20: keys", map, () -> map.drop(5, 4, 1));
        DUE.missing("20: nothing", map, () -> map.drop(8, 4, 1));
        DUE.slotless("20: 12", map, () -> map.drop(12, 4, 1));
        DUE.refusesFixedLists(20, (house1, slot) -> house1.drop(slot, 77, 7) ? 1 : 0);
    }

    private static void wipe() {
        Viewhouse house = Houses.listed(5, 1, 3, 2, 8, 0, 9, 9);
        house.part(4, 0, 1, 3);
        DUE.is("21: a part", 2, () -> house.wipe(4));
        DUE.is("21: the list then", "5 9 ", () -> Houses.keys(house, 0));
        DUE.is("21: the part stays", 'p', () -> house.kind(4));
        DUE.is("21: again", 0, () -> house.wipe(4));
        DUE.is("21: the list", 2, () -> house.wipe(0));
        DUE.is("21: the part is gone", '-', () -> house.kind(4));
        for (int how = 0; how < 3; how++) {
            Viewhouse map = Houses.mapped(2, 9, 4, 1, 3, 6, 2);
            map.keys(4, 2);
            map.values(5, 2);
            int slot = how == 0 ? 2 : 3 + how;
            DUE.is("21: slot " + slot, 2, () -> map.wipe(slot));
            DUE.is("21: of the map", 0, () -> map.size(2));
            DUE.is("21: of its keys", 0, () -> map.size(4));
            DUE.is("21: of its values", 0, () -> map.size(5));
            map.fixed(6, 2);
            map.keys(7, 6);
            map.values(8, 6);
            DUE.fixed("21: a fixed map, empty", map, () -> map.wipe(6));
            DUE.fixed("21: its keys", map, () -> map.wipe(7));
            DUE.fixed("21: its values", map, () -> map.wipe(8));
        }
        DUE.refusesFixedLists(21, (house1, slot) -> house1.wipe(slot));
        Viewhouse fresh = new Viewhouse();
        DUE.missing("21: nothing", fresh, () -> fresh.wipe(4));
        DUE.slotless("21: -1", fresh, () -> fresh.wipe(-1));
    }

    private static void putAll() {
        Viewhouse house = Houses.listed(1, 1, 2, 2, 3, 3);
        DUE.is("22: itself in its middle", 6, () -> house.putAll(0, 1, 0));
        DUE.is("22: then", "1 1 2 3 2 3 ", () -> Houses.keys(house, 0));
        house.part(4, 0, 1, 3);
        DUE.is("22: a part of itself", 8, () -> house.putAll(0, 8 - 2, 4));
        DUE.is("22: then", "1 1 2 3 2 3 1 2 ", () -> Houses.keys(house, 0));
        DUE.is("22: that part is gone", '-', () -> house.kind(4));
        house.part(4, 0, 2, 4);
        DUE.is("22: the list into its part", 10, () -> house.putAll(4, 1, 0));
        DUE.is("22: the part then", "2 1 1 2 3 2 3 1 2 3 ", () -> Houses.keys(house, 4));
        DUE.is("22: the list then", "1 1 2 1 1 2 3 2 3 1 2 3 2 3 1 2 ", () -> Houses.keys(house, 0));
        Viewhouse map = Houses.mapped(2, 9, 4, 1, 3, 6, 2);
        map.values(4, 2);
        DUE.is("22: values", 2, () -> map.putAll(1, 0, 4));
        DUE.is("22: then", "4/1 6/2 ", () -> Houses.things(map, 1));
        map.copies(5, 22, 7, 7);
        DUE.is("22: up to 24", 24, () -> map.putAll(1, 2, 5));
        map.none(6);
        DUE.is("22: none into a full one", 24, () -> map.putAll(1, 0, 6));
        map.alone(6, 1, 1);
        DUE.unready("22: one more than 24", map, () -> map.putAll(1, 0, 6));
        map.part(7, 1, 0, 1);
        DUE.unready("22: one more than 24 through a part", map, () -> map.putAll(7, 0, 6));
        DUE.illegal("22: no such place, and too many", map, () -> map.putAll(1, 25, 6));
        DUE.illegal("22: place -1", map, () -> map.putAll(0, -1, 6));
        DUE.illegal("22: place 1 of an empty list", map, () -> map.putAll(0, 1, 6));
        map.keys(8, 2);
        DUE.missing("22: keys", map, () -> map.putAll(0, 0, 8));
        DUE.missing("22: a map", map, () -> map.putAll(0, 0, 2));
        DUE.missing("22: nothing", map, () -> map.putAll(0, 0, 11));
        DUE.missing("22: into values", map, () -> map.putAll(4, 0, 0));
        DUE.missing("22: fixed, and nothing", map, () -> map.putAll(5, 0, 11));
        DUE.slotless("22: 12", map, () -> map.putAll(12, 0, 0));
        DUE.slotless("22: -1, the other one", map, () -> map.putAll(11, 0, -1));
        DUE.refusesFixedLists(22, (house1, slot) -> house1.putAll(slot, 99, 1));
    }

    private static void keep() {
        Viewhouse house = Houses.listed(1, 1, 2, 2, 3, 3, 1, 1, 1, 2);
        house.alone(4, 1, 1);
        house.part(5, 0, 1, 4);
        DUE.is("23: kept of a part", 2, () -> house.keep(5, 4, true));
        DUE.is("23: the list then", "1/1 1/1 1/2 ", () -> Houses.things(house, 0));
        house.put(0, 3, 1, 1);
        house.part(5, 0, 0, 1);
        DUE.is("23: not behind a part", 1, () -> house.keep(5, 4, false));
        DUE.is("23: taken away", 2, () -> house.keep(0, 4, false));
        DUE.is("23: the list then", "1/2 ", () -> Houses.things(house, 0));
        DUE.is("23: kept, all", 0, () -> house.keep(0, 0, true));
        DUE.is("23: itself away", 1, () -> house.keep(0, 0, false));
        Viewhouse own = Houses.listed(1, 1, 2, 2, 3, 3, 4, 4);
        own.part(4, 0, 1, 3);
        DUE.is("23: a list by its part", 2, () -> own.keep(0, 4, true));
        DUE.is("23: then", "2 3 ", () -> Houses.keys(own, 0));
        own.none(5);
        DUE.is("23: none away", 0, () -> own.keep(0, 5, false));
        DUE.is("23: none kept", 2, () -> own.keep(0, 5, true));
        Viewhouse map = Houses.mapped(2, 9, 4, 1, 3, 6, 2, 7, 4, 1);
        map.values(4, 2);
        map.alone(5, 4, 1);
        map.fixed(6, 2);
        map.values(7, 6);
        DUE.is("23: of values", 1, () -> map.keep(4, 5, true));
        DUE.is("23: numbers then", "9 7 ", () -> Houses.numbers(map, 2));
        DUE.fixed("23: fixed values", map, () -> map.keep(7, 5, true));
        DUE.is("23: by fixed values", 2, () -> map.keep(4, 7, false));
        DUE.missing("23: of a map", map, () -> map.keep(2, 5, true));
        DUE.missing("23: of nothing", map, () -> map.keep(11, 5, true));
        DUE.missing("23: by a map", map, () -> map.keep(0, 2, true));
        DUE.missing("23: fixed, by nothing", map, () -> map.keep(5, 11, true));
        map.keys(8, 2);
        DUE.missing("23: by keys", map, () -> map.keep(0, 8, true));
        DUE.slotless("23: -1", map, () -> map.keep(-1, 0, true));
        DUE.slotless("23: 12, the other one", map, () -> map.keep(11, 12, true));
        DUE.refusesFixedLists(23, (house1, slot) -> house1.keep(slot, slot, true));
    }

    private static void strip() {
        Viewhouse house = Houses.listed(1, 1, 2, 2, 0, 3, -4, 4, 5, 5, 6, 6);
        house.part(4, 0, 1, 4);
        DUE.is("24: of a part", 3, () -> house.strip(4, 2));
        DUE.is("24: the list then", "1 5 6 ", () -> Houses.keys(house, 0));
        DUE.is("24: none", 0, () -> house.strip(0, 9));
        DUE.is("24: of the list", 1, () -> house.strip(0, 3));
        Viewhouse map = Houses.mapped(2, 9, 4, 1, -3, 6, 2, 7, 9, 1, 0, 1, 1);
        map.keys(4, 2);
        map.values(5, 2);
        DUE.is("24: of keys", 3, () -> map.strip(4, 3));
        DUE.is("24: numbers then", "7 ", () -> Houses.numbers(map, 2));
        DUE.is("24: of values, none", 0, () -> map.strip(5, 2));
        DUE.is("24: of values", 1, () -> map.strip(5, 3));
        DUE.is("24: numbers then", "", () -> Houses.numbers(map, 2));
        DUE.illegal("24: by 1", house, () -> house.strip(0, 1));
        DUE.illegal("24: by 10", house, () -> house.strip(0, 10));
        DUE.illegal("24: by 0, an empty list", house, () -> house.strip(1, 0));
        map.fixed(6, 2);
        map.keys(7, 6);
        map.values(8, 6);
        DUE.fixed("24: fixed keys, by 0", map, () -> map.strip(7, 0));
        DUE.fixed("24: fixed values", map, () -> map.strip(8, 2));
        DUE.missing("24: a map", map, () -> map.strip(2, 2));
        DUE.missing("24: a fixed map", map, () -> map.strip(6, 2));
        DUE.missing("24: nothing", map, () -> map.strip(11, 0));
        DUE.slotless("24: 12", map, () -> map.strip(12, 0));
        DUE.refusesFixedLists(24, (house1, slot) -> house1.strip(slot, 10));
    }

    private static void weave() {
        Viewhouse house = Houses.listed(1, 1, 2, 2, 1, 3, 1, 4);
        house.part(4, 0, 1, 3);
        DUE.is("25: in a part", 1, () -> house.weave(4, 1, 9));
        DUE.is("25: the part then", "2/2 1/3 1/9 ", () -> Houses.things(house, 4));
        DUE.is("25: none", 0, () -> house.weave(4, 7, 9));
        DUE.is("25: in the list", 4, () -> house.weave(0, 1, 0));
        DUE.is("25: the list then", "1/1 1/0 2/2 1/3 1/0 1/9 1/0 1/4 1/0 ", () -> Houses.things(house, 0));
        DUE.illegal("25: key 1000", house, () -> house.weave(0, 1000, 1));
        DUE.illegal("25: key -1000", house, () -> house.weave(0, -1000, 1));
        DUE.illegal("25: mark 100", house, () -> house.weave(0, 1, 100));
        DUE.illegal("25: mark -1", house, () -> house.weave(0, 7, -1));
        Viewhouse half = new Viewhouse();
        half.copies(4, 12, 3, 3);
        half.putAll(0, 0, 4);
        half.putAll(1, 0, 4);
        half.put(1, 0, 1, 1);
        DUE.is("25: up to 24", 12, () -> half.weave(0, 3, 1));
        DUE.unready("25: above 24", half, () -> half.weave(1, 3, 1));
        DUE.is("25: none into a full one", 0, () -> half.weave(0, 4, 1));
        half.part(5, 0, 0, 1);
        DUE.unready("25: a full one through a part", half, () -> half.weave(5, 3, 1));
        DUE.illegal("25: too many, and no such mark", half, () -> half.weave(1, 3, 100));
        DUE.refusesFixedLists(25, (house1, slot) -> house1.weave(slot, 1000, 0));
        DUE.refusesOthers(25, (house1, slot) -> house1.weave(slot, 1000, 0));
    }

    private static void raise() {
        Viewhouse house = Houses.listed(1, 1, 2, 2, 990, 3);
        house.part(4, 0, 1, 3);
        DUE.is("26: a part", 2, () -> house.raise(4, 9));
        DUE.is("26: the list then", "1/1 11/2 999/3 ", () -> Houses.things(house, 0));
        DUE.is("26: no part goes", 'p', () -> house.kind(4));
        house.part(5, 0, 0, 2);
        DUE.is("26: ahead of 999", 2, () -> house.raise(5, 1));
        DUE.is("26: nothing behind the part", "2/1 12/2 999/3 ", () -> Houses.things(house, 0));
        house.raise(5, -1);
        DUE.illegal("26: above 999, the last one", house, () -> house.raise(0, 1));
        DUE.is("26: by 0", 3, () -> house.raise(0, 0));
        DUE.is("26: by less", 3, () -> house.raise(0, -9));
        DUE.is("26: the list then", "-8 2 990 ", () -> Houses.keys(house, 0));
        DUE.illegal("26: by 10", house, () -> house.raise(0, 10));
        DUE.illegal("26: by -10, an empty list", house, () -> house.raise(1, -10));
        Viewhouse low = Houses.listed(1, 1, -995, 0);
        DUE.illegal("26: below -999", low, () -> low.raise(0, -5));
        DUE.is("26: -999", 2, () -> low.raise(0, -4));
        Viewhouse map = Houses.mapped(3, 9, 4, 1, 3, 999, 2);
        map.fixed(4, 3);
        map.keys(5, 3);
        map.values(6, 3);
        DUE.is("26: a map", 2, () -> map.raise(3, -2));
        DUE.is("26: what 9 has", 63, () -> map.thingOf(4, 9));
        DUE.illegal("26: a map, above 999", map, () -> map.raise(3, 3));
        DUE.fixed("26: a fixed map", map, () -> map.raise(4, 10));
        DUE.missing("26: keys", map, () -> map.raise(5, 1));
        DUE.missing("26: values", map, () -> map.raise(6, 1));
        DUE.missing("26: nothing", map, () -> map.raise(11, 10));
        DUE.slotless("26: 12", map, () -> map.raise(12, 10));
        DUE.refusesFixedLists(26, (house1, slot) -> house1.raise(slot, 0));
    }
}

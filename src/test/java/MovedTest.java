/** Promises 27 to 36: lists moved, searched and sorted. */
public final class MovedTest {
    private static final Due DUE = new Due();

    public static void main(String[] args) {
        sort();
        search();
        turn();
        swap();
        rotate();
        fill();
        rowIn();
        often();
        areApart();
        end();
        DUE.end();
    }

    private static void sort() {
        int[] things = {2, 5, 1, 7, 2, 3, -4, 5, 1, 1};
        String[] sorted = {"-4/5 1/7 1/1 2/5 2/3 ", "2/5 2/3 1/7 1/1 -4/5 ", "1/1 2/3 2/5 -4/5 1/7 ",
            "1/7 2/5 -4/5 2/3 1/1 "};
        for (int i = 0; i < 4; i++) {
            char way = "kKmM".charAt(i);
            Viewhouse house = Houses.listed(things);
            DUE.is("27: way " + way, 5, () -> house.sort(0, way));
            DUE.is("27: way " + way + " then", sorted[i], () -> Houses.things(house, 0));
        }
        Viewhouse house = Houses.listed(things);
        house.part(4, 0, 1, 4);
        DUE.is("27: a part", 3, () -> house.sort(4, 'k'));
        DUE.is("27: the list then", "2/5 -4/5 1/7 2/3 1/1 ", () -> Houses.things(house, 0));
        DUE.is("27: an empty list", 0, () -> house.sort(1, 'M'));
        for (char way : new char[] {0, 'a', 'l', 255, 65535}) {
            DUE.illegal("27: way " + (int) way, house, () -> house.sort(0, way));
        }
        DUE.refusesFixedLists(27, (house1, slot) -> house1.sort(slot, 'x'));
        DUE.refusesOthers(27, (house1, slot) -> house1.sort(slot, 'x'));
    }

    private static void search() {
        Viewhouse house = Houses.listed(-2, 1, 1, 1, 1, 0, 5, 1);
        int[][] due = {{-3, -1}, {-2, 100}, {0, -2}, {1, 100}, {2, -4}, {5, 100}, {6, -5},
            {Integer.MAX_VALUE, -5}, {Integer.MIN_VALUE, -1}};
        for (int[] row : due) {
            DUE.is("28: key " + row[0], row[1], () -> house.search(0, row[0]));
        }
        DUE.is("28: an empty list", -1, () -> house.search(1, 0));
        house.copies(4, 3, 2, 2);
        DUE.is("28: copies", 100, () -> house.search(4, 2));
        house.put(0, 4, 4, 4);
        DUE.unready("28: the last key is less", house, () -> house.search(0, -2));
        house.put(0, 0, -1, 4);
        house.take(0, 5);
        DUE.unready("28: the second key is less", house, () -> house.search(0, -2));
        house.take(0, 0);
        house.put(0, 4, 4, 4);
        house.part(5, 0, 0, 4);
        DUE.is("28: a part that rises", 100, () -> house.search(5, 5));
        DUE.refusesOthers(28, (house1, slot) -> house1.search(slot, 1));
    }

    private static void turn() {
        Viewhouse house = Houses.listed(1, 1, 2, 2, 3, 3, 4, 4, 5, 5);
        house.part(4, 0, 1, 4);
        DUE.is("29: a part", 3, () -> house.turn(4));
        DUE.is("29: then", "1/1 4/4 3/3 2/2 5/5 ", () -> Houses.things(house, 0));
        DUE.is("29: a list", 5, () -> house.turn(0));
        DUE.is("29: then", "5 2 3 4 1 ", () -> Houses.keys(house, 0));
        DUE.is("29: the part stays", "2 3 4 ", () -> Houses.keys(house, 4));
        house.part(5, 0, 0, 2);
        house.turn(5);
        DUE.is("29: an even one", "2 5 3 4 1 ", () -> Houses.keys(house, 0));
        DUE.is("29: an empty one", 0, () -> house.turn(1));
        DUE.refusesFixedLists(29, (house1, slot) -> house1.turn(slot));
        DUE.refusesOthers(29, (house1, slot) -> house1.turn(slot));
    }

    private static void swap() {
        Viewhouse house = Houses.listed(1, 1, 2, 2, 3, 3, 4, 4);
        house.part(4, 0, 1, 4);
        DUE.is("30: in a part", 3, () -> house.swap(4, 0, 2));
        DUE.is("30: then", "1/1 4/4 3/3 2/2 ", () -> Houses.things(house, 0));
        DUE.is("30: in a part, back", 3, () -> house.swap(4, 1, 0));
        DUE.is("30: then", "1/1 3/3 4/4 2/2 ", () -> Houses.things(house, 0));
        house.swap(4, 0, 1);
        DUE.is("30: the same place", 4, () -> house.swap(0, 1, 1));
        DUE.is("30: then", "1 4 3 2 ", () -> Houses.keys(house, 0));
        DUE.is("30: the part stays", 'p', () -> house.kind(4));
        DUE.illegal("30: -1", house, () -> house.swap(0, -1, 0));
        DUE.illegal("30: 4", house, () -> house.swap(0, 0, 4));
        DUE.illegal("30: 3 in a part", house, () -> house.swap(4, 3, 0));
        DUE.illegal("30: -1, the other one", house, () -> house.swap(4, 0, -1));
        DUE.illegal("30: in an empty list", house, () -> house.swap(1, 0, 0));
        DUE.refusesFixedLists(30, (house1, slot) -> house1.swap(slot, 9, 9));
        DUE.refusesOthers(30, (house1, slot) -> house1.swap(slot, 0, 0));
    }

    private static void rotate() {
        Viewhouse house = Houses.listed(1, 1, 2, 2, 3, 3, 4, 4, 5, 5);
        DUE.is("31: by 2", 5, () -> house.rotate(0, 2));
        DUE.is("31: then", "4/4 5/5 1/1 2/2 3/3 ", () -> Houses.things(house, 0));
        DUE.is("31: by -1", 5, () -> house.rotate(0, -1));
        DUE.is("31: then", "5 1 2 3 4 ", () -> Houses.keys(house, 0));
        DUE.is("31: by 100", 5, () -> house.rotate(0, 100));
        DUE.is("31: then", "5 1 2 3 4 ", () -> Houses.keys(house, 0));
        house.part(4, 0, 1, 4);
        DUE.is("31: a part by -100", 3, () -> house.rotate(4, -100));
        DUE.is("31: then", "5 2 3 1 4 ", () -> Houses.keys(house, 0));
        DUE.is("31: the part stays", 'p', () -> house.kind(4));
        DUE.is("31: an empty list", 0, () -> house.rotate(1, 3));
        DUE.illegal("31: by 101", house, () -> house.rotate(0, 101));
        DUE.illegal("31: by -101, an empty list", house, () -> house.rotate(1, -101));
        DUE.illegal("31: by the least int", house, () -> house.rotate(0, Integer.MIN_VALUE));
        DUE.refusesFixedLists(31, (house1, slot) -> house1.rotate(slot, 101));
        DUE.refusesOthers(31, (house1, slot) -> house1.rotate(slot, 101));
    }

    private static void fill() {
        Viewhouse house = Houses.listed(1, 1, 2, 2, 3, 3, 4, 4);
        house.part(4, 0, 1, 3);
        DUE.is("32: a part", 2, () -> house.fill(4, 7, 8));
        DUE.is("32: then", "1/1 7/8 7/8 4/4 ", () -> Houses.things(house, 0));
        DUE.is("32: the part stays", 'p', () -> house.kind(4));
        DUE.is("32: a list", 4, () -> house.fill(0, -999, 99));
        DUE.is("32: an empty list", 0, () -> house.fill(1, 999, 0));
        DUE.illegal("32: key 1000", house, () -> house.fill(0, 1000, 0));
        DUE.illegal("32: key -1000", house, () -> house.fill(1, -1000, 0));
        DUE.illegal("32: mark 100", house, () -> house.fill(0, 1, 100));
        DUE.illegal("32: mark -1", house, () -> house.fill(0, 1, -1));
        DUE.refusesFixedLists(32, (house1, slot) -> house1.fill(slot, 1000, 0));
        DUE.refusesOthers(32, (house1, slot) -> house1.fill(slot, 1000, 0));
    }

    private static void rowIn() {
        Viewhouse house = Houses.listed(1, 1, 2, 2, 1, 1, 1, 1, 2, 2, 1, 2);
        house.part(4, 0, 3, 5);
        house.alone(5, 1, 1);
        house.none(6);
        house.copies(7, 3, 1, 1);
        DUE.is("33: the first place", 0, () -> house.rowIn(0, 4, false));
        DUE.is("33: the last place", 3, () -> house.rowIn(0, 4, true));
        DUE.is("33: one, the last place", 3, () -> house.rowIn(0, 5, true));
        DUE.is("33: not so often", -1, () -> house.rowIn(0, 7, false));
        DUE.is("33: itself", 0, () -> house.rowIn(0, 0, true));
        DUE.is("33: a longer one", -1, () -> house.rowIn(4, 0, true));
        DUE.is("33: none", 0, () -> house.rowIn(0, 6, false));
        DUE.is("33: none, last", 6, () -> house.rowIn(0, 6, true));
        DUE.is("33: an empty list in a part, last", 2, () -> house.rowIn(4, 1, true));
        DUE.is("33: none in none", 0, () -> house.rowIn(6, 1, true));
        DUE.is("33: one in none", -1, () -> house.rowIn(6, 5, false));
        house.part(8, 0, 4, 6);
        DUE.is("33: another mark", 4, () -> house.rowIn(0, 8, false));
        house.part(10, 0, 0, 5);
        DUE.is("33: beyond a part's end", -1, () -> house.rowIn(10, 8, true));
        Viewhouse zeros = Houses.listed(1, 1, 0, 0);
        zeros.copies(4, 2, 0, 0);
        DUE.is("33: beyond the list's end", -1, () -> zeros.rowIn(0, 4, true));
        house.values(9, 2);
        DUE.missing("33: in values", house, () -> house.rowIn(9, 0, false));
        DUE.missing("33: values", house, () -> house.rowIn(0, 9, false));
        DUE.missing("33: a map", house, () -> house.rowIn(0, 2, false));
        DUE.missing("33: nothing", house, () -> house.rowIn(11, 0, false));
        DUE.slotless("33: -1", house, () -> house.rowIn(-1, 11, false));
        DUE.slotless("33: 12, the other one", house, () -> house.rowIn(11, 12, false));
    }

    private static void often() {
        Viewhouse house = Houses.listed(1, 1, 2, 2, 1, 1, 1, 2);
        house.part(4, 0, 1, 4);
        DUE.is("34: a list", 2, () -> house.often(0, 1, 1));
        DUE.is("34: a part", 1, () -> house.often(4, 1, 1));
        DUE.is("34: none", 0, () -> house.often(0, 0, 32));
        DUE.is("34: out of range", 0, () -> house.often(0, 1000, -1));
        house.copies(5, 24, 9, 9);
        DUE.is("34: copies", 24, () -> house.often(5, 9, 9));
        Viewhouse map = Houses.mapped(2, 9, 4, 1, 3, 4, 1);
        map.values(4, 2);
        map.keys(5, 2);
        DUE.is("34: values", 2, () -> map.often(4, 4, 1));
        DUE.missing("34: keys", map, () -> map.often(5, 4, 1));
        DUE.missing("34: a map", map, () -> map.often(2, 4, 1));
        DUE.missing("34: nothing", map, () -> map.often(6, 4, 1));
        DUE.slotless("34: 12", map, () -> map.often(12, 4, 1));
    }

    private static void areApart() {
        Viewhouse house = Houses.listed(1, 1, 2, 2, 3, 3);
        house.enter(2, 5, 3, 3);
        house.enter(2, 6, 1, 3);
        house.part(4, 0, 0, 2);
        house.values(5, 2);
        house.none(6);
        house.alone(7, 0, 32);
        DUE.is("35: the last one is there", false, () -> house.areApart(0, 5));
        DUE.is("35: the other way round", false, () -> house.areApart(5, 0));
        DUE.is("35: values and a part", true, () -> house.areApart(5, 4));
        house.part(9, 0, 1, 2);
        DUE.is("35: what is behind a part", true, () -> house.areApart(9, 5));
        DUE.is("35: none", true, () -> house.areApart(0, 6));
        DUE.is("35: none and none", true, () -> house.areApart(6, 6));
        DUE.is("35: itself", false, () -> house.areApart(5, 5));
        DUE.is("35: the same hash", true, () -> house.areApart(0, 7));
        house.keys(8, 2);
        DUE.missing("35: keys", house, () -> house.areApart(8, 0));
        DUE.missing("35: a map", house, () -> house.areApart(0, 2));
        DUE.missing("35: nothing", house, () -> house.areApart(0, 11));
        DUE.slotless("35: -1", house, () -> house.areApart(-1, 11));
        DUE.slotless("35: 12, the other one", house, () -> house.areApart(11, 12));
    }

    private static void end() {
        Viewhouse house = Houses.listed(-3, 9, 7, 1, -5, 0, 2, 2);
        DUE.is("36: the least", -5, () -> house.end(0, false));
        DUE.is("36: the greatest", 7, () -> house.end(0, true));
        house.part(4, 0, 2, 4);
        DUE.is("36: of a part", 2, () -> house.end(4, true));
        house.part(8, 0, 0, 2);
        DUE.is("36: not of what is behind a part", -3, () -> house.end(8, false));
        house.enter(3, 5, 3, 3);
        house.enter(3, 4, -1, 3);
        house.values(5, 3);
        DUE.is("36: of values", -1, () -> house.end(5, false));
        DUE.is("36: of values, the greatest", 3, () -> house.end(5, true));
        house.none(6);
        DUE.unready("36: of none", house, () -> house.end(6, true));
        DUE.unready("36: of an empty list", house, () -> house.end(1, false));
        DUE.missing("36: a map", house, () -> house.end(3, true));
        house.keys(7, 3);
        DUE.missing("36: keys", house, () -> house.end(7, true));
        DUE.missing("36: nothing", house, () -> house.end(11, true));
        DUE.slotless("36: 12", house, () -> house.end(12, true));
    }
}

/** What the terms say of panes: which changes let parts go, what stays, and what panes on panes tell. */
public final class LetGoTest {
    private static final Due DUE = new Due();

    public static void main(String[] args) {
        changesOfLength();
        callsThatMoveOnly();
        callsThatChangeNothing();
        sortingLetsGo();
        throughAPart();
        otherListsStay();
        panesBehindSlots();
        mapsLetNothingGo();
        deepParts();
        DUE.end();
    }

    private interface Change {
        Object made(Viewhouse house);
    }

    /** Slot 4 a part of list 0, 5 of that, 6 a fixed one of 4, 7 a fixed one of the list, 8 a part beside 4. */
    private static Viewhouse parted() {
        Viewhouse house = Houses.listed(1, 1, 2, 2, 3, 3, 4, 4, 5, 5);
        house.part(4, 0, 1, 4);
        house.part(5, 4, 1, 3);
        house.fixed(6, 4);
        house.fixed(7, 0);
        house.part(8, 0, 1, 4);
        house.alone(9, 1, 1);
        house.none(10);
        return house;
    }

    private static void kindsAfter(String what, String due, Change change) {
        Viewhouse house = parted();
        change.made(house);
        DUE.is(what, due, () -> Houses.kinds(house));
        DUE.is(what + ": isSound()", true, house::isSound);
    }

    private static void changesOfLength() {
        String gone = "llmm---f-ae-";
        kindsAfter("put", gone, house -> house.put(0, 5, 1, 1));
        kindsAfter("take", gone, house -> house.take(0, 4));
        kindsAfter("drop", gone, house -> house.drop(0, 5, 5));
        kindsAfter("wipe", gone, house -> house.wipe(0));
        kindsAfter("putAll", gone, house -> house.putAll(0, 0, 9));
        kindsAfter("putAll of a part", gone, house -> house.putAll(0, 0, 4));
        kindsAfter("keep", gone, house -> house.keep(0, 4, true));
        kindsAfter("keep, away", gone, house -> house.keep(0, 9, false));
        kindsAfter("strip", gone, house -> house.strip(0, 5));
        kindsAfter("weave", gone, house -> house.weave(0, 1, 1));
    }

    private static void callsThatMoveOnly() {
        String all = "llmmppffpae-";
        kindsAfter("set", all, house -> house.set(0, 2, 9, 9));
        kindsAfter("raise", all, house -> house.raise(0, 2));
        kindsAfter("turn", all, house -> house.turn(4));
        kindsAfter("swap", all, house -> house.swap(0, 0, 4));
        kindsAfter("rotate", all, house -> house.rotate(5, 1));
        kindsAfter("fill", all, house -> house.fill(0, 1, 1));
        kindsAfter("search", all, house -> house.search(0, 1));
        kindsAfter("isSound", all, Viewhouse::isSound);
    }

    private static void callsThatChangeNothing() {
        String all = "llmmppffpae-";
        kindsAfter("drop of none", all, house -> house.drop(0, 9, 9));
        kindsAfter("putAll of none", all, house -> house.putAll(0, 0, 10));
        kindsAfter("keep of all", all, house -> house.keep(0, 7, true));
        kindsAfter("keep, none away", all, house -> house.keep(0, 10, false));
        kindsAfter("strip of none", all, house -> house.strip(0, 9));
        kindsAfter("weave of none", all, house -> house.weave(0, 9, 9));
        kindsAfter("a part's wipe of nothing", "llmmppffpaep", house -> {
            house.part(11, 0, 2, 2);
            return house.wipe(11);
        });
    }

    private static void sortingLetsGo() {
        kindsAfter("sort that moves nothing", "llmm---f-ae-", house -> house.sort(0, 'k'));
        kindsAfter("sort that moves", "llmm---f-ae-", house -> house.sort(0, 'K'));
        kindsAfter("sort of a part", "llmmp-ff-ae-", house -> house.sort(4, 'k'));
        kindsAfter("sort of a part's part", "llmmppff-ae-", house -> house.sort(5, 'K'));
        kindsAfter("sort of an empty list", "llmmppffpae-", house -> {
            house.part(11, 1, 0, 0);
            return house.sort(1, 'k');
        });
    }

    private static void throughAPart() {
        kindsAfter("through a part", "llmmp-ff-ae-", house -> house.put(4, 0, 7, 7));
        kindsAfter("through a part's part", "llmmppff-ae-", house -> house.put(5, 0, 7, 7));
        kindsAfter("through the part beside", "llmm---fpae-", house -> house.take(8, 0));
        Viewhouse house = parted();
        house.put(5, 2, 7, 7);
        house.take(5, 0);
        house.putAll(5, 0, 9);
        DUE.is("the part's part", "1 4 7 ", () -> Houses.keys(house, 5));
        DUE.is("the part", "2 1 4 7 ", () -> Houses.keys(house, 4));
        DUE.is("the fixed part", "2 1 4 7 ", () -> Houses.keys(house, 6));
        DUE.is("the list", "1 2 1 4 7 5 ", () -> Houses.keys(house, 0));
        DUE.is("the fixed list", "1 2 1 4 7 5 ", () -> Houses.keys(house, 7));
        DUE.is("keep in a part", 1, () -> house.keep(5, 9, false));
        DUE.is("keep in a part's part, the list", "1 2 4 7 5 ", () -> Houses.keys(house, 0));
        DUE.is("strip in a part", 2, () -> house.strip(4, 2));
        DUE.is("strip in a part, the list", "1 7 5 ", () -> Houses.keys(house, 0));
        DUE.is("strip in a part, its part", '-', () -> house.kind(5));
        DUE.is("weave in a part", 1, () -> house.weave(4, 7, 1));
        DUE.is("weave in a part, the list", "1 7 7 5 ", () -> Houses.keys(house, 0));
        DUE.is("drop in a part", true, () -> house.drop(4, 7, 7));
        DUE.is("wipe of a part", 1, () -> house.wipe(4));
        DUE.is("wipe of a part, the fixed list", "1 5 ", () -> Houses.keys(house, 7));
        DUE.is("isSound()", true, house::isSound);
    }

    private static void otherListsStay() {
        Viewhouse house = parted();
        house.putAll(1, 0, 0);
        house.part(11, 1, 1, 3);
        house.take(0, 0);
        DUE.is("a part of the other list stays", "llmm---f-aep", () -> Houses.kinds(house));
        house.take(1, 4);
        DUE.is("as its own list changes", "llmm---f-ae-", () -> Houses.kinds(house));
    }

    private static void panesBehindSlots() {
        Viewhouse house = parted();
        house.none(4);
        DUE.is("a part on a slot's part stays", "3 4 ", () -> Houses.keys(house, 5));
        DUE.is("a fixed one too", "2 3 4 ", () -> Houses.keys(house, 6));
        house.put(5, 0, 9, 9);
        DUE.is("a change through it", "9 3 4 ", () -> Houses.keys(house, 5));
        DUE.is("is told by what it is a part of", "2 9 3 4 ", () -> Houses.keys(house, 6));
        DUE.is("what went", "llmmepff-ae-", () -> Houses.kinds(house));
        house.take(0, 0);
        DUE.is("a change through the list", "llmme--f-ae-", () -> Houses.kinds(house));
        Viewhouse maps = Houses.mapped(3, 5, 1, 1, 2, 2, 2);
        maps.fixed(4, 3);
        maps.keys(5, 4);
        maps.values(4, 4);
        DUE.is("keys of a fixed map stay", "2 5 ", () -> Houses.numbers(maps, 5));
        DUE.fixed("and fixed", maps, () -> maps.wipe(5));
        DUE.fixed("values, too", maps, () -> maps.wipe(4));
    }

    private static void mapsLetNothingGo() {
        Viewhouse house = Houses.mapped(2, 5, 1, 1, 2, 2, 2, 7, 3, 3);
        house.keys(4, 2);
        house.values(5, 2);
        house.fixed(6, 2);
        house.part(7, 0, 0, 0);
        house.strike(2, 5);
        house.strip(5, 2);
        house.enter(2, 9, 9, 9);
        DUE.is("of maps", "llmmkvFp----", () -> Houses.kinds(house));
        DUE.is("keys", "7 9 ", () -> Houses.numbers(house, 4));
        DUE.is("a fixed map", "7 9 ", () -> Houses.numbers(house, 6));
        house.wipe(2);
        DUE.is("of a map's wipe", "llmmkvFp----", () -> Houses.kinds(house));
    }

    private static void deepParts() {
        Viewhouse house = Houses.listed(1, 1, 2, 2, 3, 3);
        for (int depth = 0; depth < 490; depth++) {
            house.part(4, depth == 0 ? 0 : 4, 0, 3);
        }
        DUE.is("through a part 490 deep", 4, () -> house.put(4, 1, 9, 9));
        DUE.is("the list", "1 9 2 3 ", () -> Houses.keys(house, 0));
        DUE.is("the part", 'p', () -> house.kind(4));
    }
}

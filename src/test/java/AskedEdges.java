/** Sentences of promises 10 to 13: what is asked of all. */
final class AskedEdges {
    private AskedEdges() {
    }

    static void all(Edges edges) {
        size(edges);
        walk(edges);
        isSame(edges);
        isSameRefused(edges);
        hash(edges);
    }

    private static void size(Edges edges) {
        edges.test("10 size: of each kind", Edges.KINDS + "size 0 = 3; size 1 = 0; size 2 = 2; size 3 = 0; size 4 = 2;"
                + "size 5 = 3; size 6 = 2; size 7 = 1; size 8 = 0; size 9 = 2; size 10 = 2; size 11 = 2");
        edges.test("10 size: of empty panes", Edges.HOLLOW + "size 4 = 0; size 5 = 0; size 6 = 0; size 7 = 0; size 9 = 0;"
                + "size 10 = 0; size 11 = 0");
        edges.test("10 size: of a full list", Edges.FULL + "size 0 = 24");
        edges.each("10 size: of a full map", "2 3", Edges.numbers(2, 1, 24) + Edges.numbers(3, 1, 24) + "size # = 24");
        edges.each("10 size: no such slot", Edges.NO_SLOTS, "size # = !Index");
        edges.each("10 size: it holds nothing", "4 5 6 7 8 9 10 11", "size # = !NoSuch");
        edges.test("10 size: it holds nothing, as its part was let go", "part 4 0 0 0; put 0 0 1 1; size 4 = !NoSuch");
    }

    private static void walk(Edges edges) {
        edges.test("11 walk: 7 at first", "walk 0 false = 7; walk 0 true = 7; walk 2 false = 7");
        edges.test("11 walk: then 31 times itself plus each", "put 0 0 5 1; walk 0 false = 373; put 0 1 3 2; walk 0 false = 11658");
        edges.test("11 walk: from the last one to the first one", "put 0 0 5 1; put 0 1 3 2; walk 0 true = 9828");
        edges.test("11 walk: of a thing its hash, a key below 0", "alone 4 -999 0; walk 4 false = -30752");
        edges.test("11 walk: of keys the number", "enter 2 9 4 1; keys 4 2; walk 4 false = 226");
        edges.test("11 walk: of values the thing's hash", "enter 2 9 4 1; values 4 2; walk 4 false = 342");
        edges.test("11 walk: of a map the number, and then its thing's hash", "enter 2 9 4 1; walk 2 false = 7131");
        edges.test("11 walk: of a fixed map likewise", "enter 2 9 4 1; fixed 4 2; walk 4 false = 7131");
        edges.test("11 walk: of numbers that are far", "enter 2 2147483647 1 1; walk 2 false = 66571999816;"
                + "enter 3 -2147483648 1 1; walk 3 false = -66571986329");
        edges.test("11 walk: goes on above an int", "copies 4 7 7 7; walk 4 false = 398015817465");
        edges.test("11 walk: goes round above a long", "copies 4 24 999 99; walk 4 false = 1448978849453204743");
        edges.test("11 walk: goes round below a long", "copies 4 24 -999 0; walk 4 false = -4784840508288715385");
        edges.each("11 walk: lists from the last one on, slot", "0 4 5 6 7 8", Edges.KINDS + "walk # true");
        edges.test("11 walk: each list from the last one on", Edges.KINDS + "walk 0 true = 449966; walk 1 true = 7;"
                + "walk 4 true = 14510; walk 5 true = 449966; walk 6 true = 10727; walk 7 true = 373; walk 8 true = 7");
        edges.each("11 walk: no such slot", Edges.NO_SLOTS, "walk # false = !Index");
        edges.each("11 walk: it holds nothing", "4 11", "walk # false = !NoSuch");
        edges.each("11 walk: from the last one on, of no list, slot", Edges.NO_LISTS, Edges.KINDS + "walk # true = !Argument");
        edges.test("11 walk: from the last one on, of no list without things", Edges.HOLLOW
                + "walk 9 true = !Argument; walk 10 true = !Argument; walk 11 true = !Argument; walk 2 true = !Argument");
        edges.each("11 walk: Index ahead of Argument", Edges.NO_SLOTS, "walk # true = !Index");
        edges.each("11 walk: NoSuch ahead of Argument", "4 11", "walk # true = !NoSuch");
    }

    private static void isSame(Edges edges) {
        edges.test("12 isSame: two lists that have alike things", Edges.THREE + "putAll 1 0 0; isSame 0 1 = true");
        edges.test("12 isSame: a list and itself", Edges.THREE + "isSame 0 0 = true");
        edges.test("12 isSame: two empty lists", "isSame 0 1 = true");
        edges.test("12 isSame: none, no copies, an empty part and an empty fixed list", Edges.HOLLOW
                + "isSame 4 5 = true; isSame 5 6 = true; isSame 6 7 = true; isSame 7 8 = true; isSame 8 4 = true");
        edges.test("12 isSame: one copy and one alone", "copies 4 1 2 3; alone 5 2 3; isSame 4 5 = true; isSame 5 4 = true");
        edges.test("12 isSame: a longer list that begins alike", Edges.THREE + "part 4 0 0 2; isSame 0 4 = false");
        edges.test("12 isSame: a shorter list that is begun alike", Edges.THREE + "part 4 0 0 2; isSame 4 0 = false");
        edges.test("12 isSame: an empty list and a longer one", Edges.THREE + "isSame 1 0 = false; isSame 0 1 = false");
        edges.test("12 isSame: another key at the last place", Edges.THREE + "putAll 1 0 0; set 1 2 9 0; isSame 0 1 = false");
        edges.test("12 isSame: another mark at the first place", Edges.THREE + "putAll 1 0 0; set 1 0 5 2; isSame 0 1 = false");
        edges.test("12 isSame: the same things in another order", Edges.THREE + "putAll 1 0 0; turn 1; isSame 0 1 = false");
        edges.test("12 isSame: other things with the same hashes", "alone 4 1 0; alone 5 0 31; isSame 4 5 = false");
        edges.test("12 isSame: two of keys in another order", "enter 2 9 1 1; enter 2 3 1 1; enter 3 9 1 1; enter 3 3 1 1;"
                + "keys 4 2; keys 5 3; isSame 4 5 = true");
        edges.test("12 isSame: two of keys whose things are other ones", "enter 2 9 1 1; enter 3 9 2 2; keys 4 2; keys 5 3;"
                + "isSame 4 5 = true");
        edges.test("12 isSame: keys and those of a fixed map", Edges.KINDS + "keys 4 11; isSame 4 9 = true; isSame 9 4 = true");
        edges.test("12 isSame: two of no keys", "keys 4 2; keys 5 3; isSame 4 5 = true");
        edges.test("12 isSame: keys with one more", "enter 2 9 1 1; enter 3 9 1 1; enter 3 3 1 1; keys 4 2; keys 5 3;"
                + "isSame 4 5 = false; isSame 5 4 = false");
        edges.test("12 isSame: as many other keys", "enter 2 9 1 1; enter 3 8 1 1; keys 4 2; keys 5 3; isSame 4 5 = false");
        edges.test("12 isSame: other keys with the same hash", "enter 2 1 1 1; enter 2 4 1 1; enter 3 2 1 1; enter 3 3 1 1;"
                + "keys 4 2; keys 5 3; hash 4 = 5; hash 5 = 5; isSame 4 5 = false");
        edges.test("12 isSame: two maps in another order", "enter 2 9 4 1; enter 2 3 6 2; enter 3 9 4 1; enter 3 3 6 2;"
                + "isSame 2 3 = true; isSame 3 2 = true");
        edges.test("12 isSame: a map and a fixed one", Edges.KINDS + "isSame 2 11 = true; isSame 11 2 = true; isSame 11 11 = true");
        edges.test("12 isSame: two empty maps", "isSame 2 3 = true");
        edges.test("12 isSame: a map with one more", "enter 2 9 4 1; enter 3 9 4 1; enter 3 3 6 2; isSame 2 3 = false;"
                + "isSame 3 2 = false");
        edges.test("12 isSame: a map with another number", "enter 2 9 4 1; enter 3 8 4 1; isSame 2 3 = false");
        edges.test("12 isSame: a number with another key", "enter 2 9 4 1; enter 3 9 5 1; isSame 2 3 = false");
        edges.test("12 isSame: a number with another mark", "enter 2 9 4 1; enter 3 9 4 2; isSame 2 3 = false");
        edges.test("12 isSame: numbers whose things are changed for each other", "enter 2 9 4 1; enter 2 3 6 2;"
                + "enter 3 9 6 2; enter 3 3 4 1; isSame 2 3 = false");
        edges.test("12 isSame: maps whose things have the same hashes", "enter 2 9 1 0; enter 3 9 0 31; isSame 2 3 = false");
    }

    private static void isSameRefused(Edges edges) {
        edges.each("12 isSame: no such slot", Edges.NO_SLOTS, "isSame # 0 = !Index");
        edges.each("12 isSame: no such slot of the other one", Edges.NO_SLOTS, "isSame 0 # = !Index");
        edges.each("12 isSame: a list, and none in slot", Edges.NO_LISTS, Edges.KINDS + "isSame 0 # = !NoSuch");
        edges.each("12 isSame: no list, and a list, slot", Edges.NO_LISTS, Edges.KINDS + "isSame # 6 = !NoSuch");
        edges.each("12 isSame: keys, and none in slot", Edges.NO_KEYS, Edges.KINDS + "isSame 9 # = !NoSuch");
        edges.each("12 isSame: no keys, and keys, slot", Edges.NO_KEYS, Edges.KINDS + "isSame # 9 = !NoSuch");
        edges.each("12 isSame: a map, and none in slot", Edges.NO_MAPS, Edges.KINDS + "isSame 2 # = !NoSuch");
        edges.each("12 isSame: no map, and a fixed map, slot", Edges.NO_MAPS, Edges.KINDS + "isSame # 11 = !NoSuch");
        edges.test("12 isSame: two of values", Edges.KINDS + "isSame 10 10 = !NoSuch; values 4 2; isSame 4 10 = !NoSuch");
        edges.test("12 isSame: nothing and a list", "isSame 4 0 = !NoSuch");
        edges.test("12 isSame: a list and nothing", "isSame 0 4 = !NoSuch");
        edges.test("12 isSame: nothing twice", "isSame 4 4 = !NoSuch; isSame 4 5 = !NoSuch");
        edges.test("12 isSame: Index ahead of NoSuch, of the other one", "isSame 4 12 = !Index");
        edges.test("12 isSame: Index ahead of NoSuch, of the slot", "isSame -1 4 = !Index");
        edges.test("12 isSame: Index ahead of NoSuch, of values", Edges.KINDS + "isSame 10 12 = !Index");
    }

    private static void hash(Edges edges) {
        edges.test("13 hash: of lists 1 at first", Edges.HOLLOW + "hash 0 = 1; hash 4 = 1; hash 5 = 1; hash 6 = 1; hash 7 = 1;"
                + "hash 8 = 1");
        edges.test("13 hash: then 31 times itself plus the thing's", "put 0 0 5 1; hash 0 = 187; put 0 1 3 2; hash 0 = 5892");
        edges.test("13 hash: of each list", Edges.KINDS + "hash 0 = 182900; hash 4 = 4154; hash 5 = 182900; hash 6 = 4961;"
                + "hash 7 = 187; hash 8 = 1");
        edges.test("13 hash: of keys 0 at first, then their sum", "keys 4 2; hash 4 = 0; enter 2 9 4 1; hash 4 = 9;"
                + "enter 2 -3 4 1; hash 4 = 6");
        edges.test("13 hash: of keys goes round", "enter 2 2147483647 4 1; enter 2 1 4 1; keys 4 2; hash 4 = -2147483648");
        edges.test("13 hash: of a map 0 at first, then the numbers with the things' bits turned", "hash 2 = 0;"
                + "enter 2 9 4 1; hash 2 = 116; enter 2 3 6 2; hash 2 = 307");
        edges.test("13 hash: of a map with a number below 0", "enter 2 -1 4 1; hash 2 = -126");
        edges.test("13 hash: of a map goes round", "enter 3 2147483647 0 0; enter 3 2 0 0; hash 3 = -2147483647");
        edges.test("13 hash: of a fixed map", Edges.KINDS + "hash 11 = 307");
        edges.test("13 hash: of lists goes round", "copies 4 24 999 99; hash 4 = 261396225; copies 4 24 -999 0; hash 4 = -1821677695");
        edges.each("13 hash: no such slot", Edges.NO_SLOTS, "hash # = !Index");
        edges.test("13 hash: it holds nothing", "hash 4 = !NoSuch; hash 11 = !NoSuch");
        edges.test("13 hash: it holds values", Edges.KINDS + "hash 10 = !NoSuch");
        edges.test("13 hash: it holds no values", "values 4 2; hash 4 = !NoSuch");
    }
}

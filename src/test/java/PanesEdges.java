/** Sentences of promises 1 to 9: a new object, and what slots hold. */
final class PanesEdges {
    private PanesEdges() {
    }

    static void all(Edges edges) {
        newObject(edges);
        part(edges);
        partRefused(edges);
        fixed(edges);
        copies(edges);
        alone(edges);
        none(edges);
        keys(edges);
        values(edges);
        kind(edges);
    }

    private static void newObject(Edges edges) {
        edges.each("1 Viewhouse: an empty list", "0 1", "kind # = l; size # = 0; hash # = 1");
        edges.each("1 Viewhouse: an empty map", "2 3", "kind # = m; size # = 0; hash # = 0");
        edges.each("1 Viewhouse: no pane", "4 5 6 7 8 9 10 11", "kind # = -; size # = !NoSuch");
        edges.test("1 Viewhouse: the lists are two", "put 0 0 1 1; size 1 = 0; put 1 0 2 2; things 0 = 1/1");
        edges.test("1 Viewhouse: the maps are two", "enter 2 1 1 1; size 3 = 0; enter 3 2 2 2; numbers 2 = 1");
        edges.test("1 Viewhouse: two objects have nothing in common", Edges.KINDS
                + "new; kinds = llmm--------; size 0 = 0; size 2 = 0; put 0 0 1 1; none 4 = 1");
    }

    private static void part(Edges edges) {
        edges.each("2 part: the slots of panes", "4 5 6 7 8 9 10 11", "part # 0 0 0 = 0; kind # = p");
        edges.test("2 part: of list 0", Edges.THREE + "part 4 0 1 3 = 2; things 4 = 3/2 8/0");
        edges.test("2 part: of list 1", Edges.THREE + "putAll 1 0 0; put 1 0 9 9; part 4 1 0 2 = 2; things 4 = 9/9 5/1");
        edges.test("2 part: of a part", Edges.THREE + "part 4 0 1 3; part 5 4 1 2 = 1; things 5 = 8/0");
        edges.test("2 part: of the part in its own slot", Edges.THREE + "part 4 0 1 3; part 4 4 1 2 = 1; things 4 = 8/0");
        edges.test("2 part: in the slot of another pane", Edges.KINDS + "part 6 0 0 1 = 1; kind 6 = p");
        edges.test("2 part: with the first place", Edges.THREE + "part 4 0 0 1 = 1; things 4 = 5/1");
        edges.test("2 part: with the last place", Edges.THREE + "part 4 0 2 3 = 1; things 4 = 8/0");
        edges.test("2 part: not with the place behind", Edges.THREE + "part 4 0 0 2 = 2; things 4 = 5/1 3/2");
        edges.test("2 part: all of a list", Edges.THREE + "part 4 0 0 3 = 3; things 4 = 5/1 3/2 8/0");
        edges.test("2 part: all of a full list", Edges.FULL + "part 4 0 0 24 = 24; size 4 = 24");
        edges.test("2 part: all of a part", Edges.THREE + "part 4 0 1 3; part 5 4 0 2 = 2; things 5 = 3/2 8/0");
        edges.each("2 part: without things, at a place", "0 1 2 3", Edges.THREE + "part 4 0 # # = 0; size 4 = 0");
        edges.test("2 part: of an empty list", "part 4 1 0 0 = 0; kind 4 = p");
        edges.test("2 part: of an empty part", Edges.THREE + "part 4 0 3 3; part 5 4 0 0 = 0; kind 5 = p");
        edges.test("2 part: lets no part go", Edges.THREE + "part 4 0 1 3; part 5 0 0 3; part 6 5 0 1; kinds = llmmppp-----");
    }

    private static void partRefused(Edges edges) {
        edges.each("2 part: no such slot of panes", Edges.NO_PANE_SLOTS, "part # 0 0 0 = !Index");
        edges.each("2 part: no such slot of", Edges.NO_SLOTS, "part 4 # 0 0 = !Index");
        edges.each("2 part: of neither list nor part, slot", "2 3 5 6 7 8 9 10 11", Edges.KINDS + "part 4 # 0 0 = !NoSuch");
        edges.test("2 part: of nothing", "part 4 5 0 0 = !NoSuch");
        edges.test("2 part: of nothing in its own slot", "part 4 4 0 0 = !NoSuch");
        edges.test("2 part: of a part that was let go", Edges.THREE + "part 4 0 0 2; take 0 0; part 5 4 0 0 = !NoSuch");
        edges.each("2 part: from below 0", "-1 -2147483648", Edges.THREE + "part 4 0 # 1 = !Argument");
        edges.test("2 part: from below 0, of a part", Edges.THREE + "part 4 0 1 3; part 5 4 -1 1 = !Argument");
        edges.test("2 part: from below 0, to as well", Edges.THREE + "part 4 0 -1 -1 = !Argument");
        edges.test("2 part: from above to by 1", Edges.THREE + "part 4 0 2 1 = !Argument");
        edges.test("2 part: from above to, to below 0", Edges.THREE + "part 4 0 0 -1 = !Argument");
        edges.test("2 part: from far above to", Edges.THREE + "part 4 0 2147483647 0 = !Argument");
        edges.each("2 part: to above how many things there are", "4 25 2147483647", Edges.THREE + "part 4 0 0 # = !Argument");
        edges.test("2 part: from and to above how many there are", Edges.THREE + "part 4 0 4 4 = !Argument");
        edges.test("2 part: to above how many, of an empty list", "part 4 1 0 1 = !Argument");
        edges.test("2 part: to above what a full list has", Edges.FULL + "part 4 0 0 25 = !Argument");
        edges.test("2 part: to above how many a part has", Edges.THREE + "part 4 0 0 2; part 5 4 0 3 = !Argument");
        edges.test("2 part: refused, the slot holds what it held", Edges.KINDS + "part 4 4 0 3 = !Argument; things 4 = 3/2 8/0");
        edges.test("2 part: Index ahead of NoSuch, of nothing", "part 3 5 0 0 = !Index");
        edges.test("2 part: Index ahead of NoSuch, of a map", "part 12 2 0 0 = !Index");
        edges.test("2 part: Index ahead of Argument", Edges.THREE + "part 3 0 -1 0 = !Index");
        edges.test("2 part: Index, of no slot, ahead of Argument", Edges.THREE + "part 4 12 2 1 = !Index");
        edges.test("2 part: NoSuch ahead of Argument, of nothing", "part 4 5 -1 0 = !NoSuch");
        edges.test("2 part: NoSuch ahead of Argument, of a map", "part 4 2 2 1 = !NoSuch");
        edges.test("2 part: NoSuch ahead of Argument, of a fixed list", Edges.KINDS + "part 4 5 0 4 = !NoSuch");
    }

    private static void fixed(Edges edges) {
        edges.each("3 fixed: the slots of panes", "4 5 6 7 8 9 10 11", "fixed # 0 = 0; kind # = f");
        edges.test("3 fixed: of list 0", Edges.THREE + "fixed 4 0 = 3; kind 4 = f; things 4 = 5/1 3/2 8/0");
        edges.test("3 fixed: of list 1", "put 1 0 1 2; fixed 4 1 = 1; kind 4 = f; things 4 = 1/2");
        edges.test("3 fixed: of a part", Edges.THREE + "part 4 0 1 3; fixed 5 4 = 2; kind 5 = f; things 5 = 3/2 8/0");
        edges.test("3 fixed: of the part in its own slot", Edges.THREE + "part 4 0 1 3; fixed 4 4 = 2; things 4 = 3/2 8/0");
        edges.test("3 fixed: of map 2", "enter 2 9 4 1; fixed 4 2 = 1; kind 4 = F; hashes 4 = 9 125");
        edges.test("3 fixed: of map 3", "enter 3 9 4 1; fixed 4 3 = 1; kind 4 = F; hashes 4 = 9 125");
        edges.each("3 fixed: of an empty map", "2 3", "fixed 4 # = 0; kind 4 = F");
        edges.test("3 fixed: of an empty part", "part 4 0 0 0; fixed 5 4 = 0; kind 5 = f");
        edges.each("3 fixed: no such slot of panes", Edges.NO_PANE_SLOTS, "fixed # 0 = !Index");
        edges.each("3 fixed: no such slot of", Edges.NO_SLOTS, "fixed 4 # = !Index");
        edges.each("3 fixed: of neither list, part nor map, slot", "5 6 7 8 9 10 11", Edges.KINDS + "fixed 4 # = !NoSuch");
        edges.test("3 fixed: of nothing", "fixed 4 5 = !NoSuch");
        edges.test("3 fixed: of nothing in its own slot", "fixed 4 4 = !NoSuch");
        edges.test("3 fixed: of a part that was let go", Edges.THREE + "part 4 0 0 2; take 0 0; fixed 5 4 = !NoSuch");
        edges.test("3 fixed: Index ahead of NoSuch, of nothing", "fixed 3 5 = !Index");
        edges.test("3 fixed: Index ahead of NoSuch, of keys", Edges.KINDS + "fixed 12 9 = !Index");
    }

    private static void copies(Edges edges) {
        edges.each("4 copies: the slots of panes", "4 5 6 7 8 9 10 11", "copies # 1 2 3 = 1; kind # = c");
        edges.test("4 copies: so many of a thing", "copies 4 3 2 1 = 3; kind 4 = c; things 4 = 2/1 2/1 2/1");
        edges.each("4 copies: as many as", "0 1 23 24", "copies 4 # 2 1 = #; size 4 = #; kind 4 = c");
        edges.each("4 copies: the key", "-999 -1 0 999", "copies 4 1 # 0 = 1; things 4 = #/0");
        edges.each("4 copies: the mark", "0 1 99", "copies 4 1 0 # = 1; things 4 = 0/#");
        edges.each("4 copies: no such slot of panes", Edges.NO_PANE_SLOTS, "copies # 1 1 1 = !Index");
        edges.each("4 copies: how many is out of range", "-1 25 -2147483648 2147483647", "copies 4 # 1 1 = !Argument");
        edges.each("4 copies: the key is out of range", "-1000 1000 -2147483648 2147483647", "copies 4 1 # 1 = !Argument");
        edges.each("4 copies: the mark is out of range", "-1 100 -2147483648 2147483647", "copies 4 1 1 # = !Argument");
        edges.test("4 copies: 0 of a key out of range", "copies 4 0 1000 1 = !Argument");
        edges.test("4 copies: 0 of a mark out of range", "copies 4 0 1 -1 = !Argument");
        edges.test("4 copies: refused, the slot holds what it held", Edges.KINDS + "copies 7 25 1 1 = !Argument; things 7 = 5/1");
        edges.test("4 copies: Index ahead of Argument, how many", "copies 3 25 1 1 = !Index");
        edges.test("4 copies: Index ahead of Argument, the key", "copies 12 1 1000 1 = !Index");
        edges.test("4 copies: Index ahead of Argument, the mark", "copies 3 1 1 100 = !Index");
    }

    private static void alone(Edges edges) {
        edges.each("5 alone: the slots of panes", "4 5 6 7 8 9 10 11", "alone # 2 1 = 94; kind # = a");
        edges.test("5 alone: one thing", "alone 4 2 1 = 94; size 4 = 1; things 4 = 2/1");
        edges.test("5 alone: returns its hash as a list, not its own", "alone 4 0 0 = 31; hash 4 = 31");
        edges.test("5 alone: the least key and mark", "alone 4 -999 0 = -30938; things 4 = -999/0");
        edges.test("5 alone: the greatest key and mark", "alone 4 999 99 = 31099; things 4 = 999/99");
        edges.each("5 alone: no such slot of panes", Edges.NO_PANE_SLOTS, "alone # 1 1 = !Index");
        edges.each("5 alone: the key is out of range", "-1000 1000 -2147483648 2147483647", "alone 4 # 1 = !Argument");
        edges.each("5 alone: the mark is out of range", "-1 100 -2147483648 2147483647", "alone 4 1 # = !Argument");
        edges.test("5 alone: Index ahead of Argument, the key", "alone 3 1000 1 = !Index");
        edges.test("5 alone: Index ahead of Argument, the mark", "alone 12 1 100 = !Index");
    }

    private static void none(Edges edges) {
        edges.each("6 none: the slots of panes", "4 5 6 7 8 9 10 11", "none # = 1; kind # = e; size # = 0");
        edges.test("6 none: counts itself and all others", Edges.KINDS + "none 8 = 8");
        edges.test("6 none: counts no list and no map", "put 0 0 1 1; enter 2 1 1 1; none 4 = 1");
        edges.test("6 none: counts slots 4 and 11", "none 4 = 1; none 11 = 2; none 5 = 3");
        edges.test("6 none: in a slot that held something", "alone 4 1 1; none 4 = 1");
        edges.test("6 none: a part let go does not count", "part 4 0 0 0; fixed 5 4; put 0 0 1 1; none 6 = 1");
        edges.test("6 none: empty panes count", Edges.HOLLOW + "none 8 = 8");
        edges.each("6 none: no such slot of panes", Edges.NO_PANE_SLOTS, "none # = !Index");
    }

    private static void keys(Edges edges) {
        edges.each("7 keys: the slots of panes", "4 5 6 7 8 9 10 11", "keys # 2 = 0; kind # = k");
        edges.test("7 keys: of map 2, as the numbers came", "enter 2 9 4 1; enter 2 3 6 2; keys 4 2 = 2; numbers 4 = 9 3");
        edges.test("7 keys: of map 3, rising", "enter 3 9 4 1; enter 3 3 6 2; keys 4 3 = 2; numbers 4 = 3 9");
        edges.test("7 keys: of a fixed map", Edges.KINDS + "keys 4 11 = 2; kind 4 = k; numbers 4 = 9 3");
        edges.test("7 keys: of a fixed map, by which nothing can be changed", Edges.KINDS + "keys 4 11; wipe 4 = !Shut");
        edges.test("7 keys: of the fixed map in its own slot", Edges.KINDS + "keys 11 11 = 2; numbers 11 = 9 3; wipe 11 = !Shut");
        edges.test("7 keys: of an empty map", "keys 4 2 = 0; size 4 = 0");
        edges.test("7 keys: of a full map", Edges.numbers(3, 1, 24) + "keys 4 3 = 24");
        edges.each("7 keys: no such slot of panes", Edges.NO_PANE_SLOTS, "keys # 2 = !Index");
        edges.each("7 keys: no such slot of", Edges.NO_SLOTS, "keys 4 # = !Index");
        edges.each("7 keys: of no map, slot", Edges.NO_MAPS, Edges.KINDS + "keys 4 # = !NoSuch");
        edges.test("7 keys: of nothing", "keys 4 5 = !NoSuch");
        edges.test("7 keys: Index ahead of NoSuch, of nothing", "keys 3 5 = !Index");
        edges.test("7 keys: Index ahead of NoSuch, of a list", "keys 12 0 = !Index");
    }

    private static void values(Edges edges) {
        edges.each("8 values: the slots of panes", "4 5 6 7 8 9 10 11", "values # 2 = 0; kind # = v");
        edges.test("8 values: of map 2, as the numbers came", "enter 2 9 4 1; enter 2 3 6 2; values 4 2 = 2; hashes 4 = 125 188");
        edges.test("8 values: of map 3, rising", "enter 3 9 4 1; enter 3 3 6 2; values 4 3 = 2; hashes 4 = 188 125");
        edges.test("8 values: of a fixed map", Edges.KINDS + "values 4 11 = 2; kind 4 = v; hashes 4 = 125 188");
        edges.test("8 values: of a fixed map, by which nothing can be changed", Edges.KINDS + "values 4 11; wipe 4 = !Shut");
        edges.test("8 values: of the fixed map in its own slot", Edges.KINDS + "values 11 11 = 2; wipe 11 = !Shut");
        edges.test("8 values: of an empty map", "values 4 2 = 0; size 4 = 0");
        edges.test("8 values: of a full map", Edges.numbers(3, 1, 24) + "values 4 3 = 24");
        edges.each("8 values: no such slot of panes", Edges.NO_PANE_SLOTS, "values # 2 = !Index");
        edges.each("8 values: no such slot of", Edges.NO_SLOTS, "values 4 # = !Index");
        edges.each("8 values: of no map, slot", Edges.NO_MAPS, Edges.KINDS + "values 4 # = !NoSuch");
        edges.test("8 values: of nothing", "values 4 5 = !NoSuch");
        edges.test("8 values: Index ahead of NoSuch, of nothing", "values 3 5 = !Index");
        edges.test("8 values: Index ahead of NoSuch, of a list", "values 12 0 = !Index");
    }

    private static void kind(Edges edges) {
        edges.each("9 kind: a list of 0 and 1", "0 1", "kind # = l");
        edges.each("9 kind: a map of 2 and 3", "2 3", "kind # = m");
        edges.test("9 kind: a part", "part 4 0 0 0; kind 4 = p");
        edges.test("9 kind: a fixed list", "fixed 4 0; kind 4 = f");
        edges.test("9 kind: a fixed part is a fixed list", "part 4 0 0 0; fixed 5 4; kind 5 = f");
        edges.test("9 kind: a fixed map", "fixed 4 2; kind 4 = F");
        edges.test("9 kind: copies", "copies 4 2 1 1; kind 4 = c");
        edges.test("9 kind: one copy is not one alone", "copies 4 1 1 1; kind 4 = c");
        edges.test("9 kind: no copies are not none of things", "copies 4 0 1 1; kind 4 = c");
        edges.test("9 kind: one alone", "alone 4 1 1; kind 4 = a");
        edges.test("9 kind: none of things", "none 4; kind 4 = e");
        edges.test("9 kind: keys", "keys 4 2; kind 4 = k");
        edges.test("9 kind: keys of a fixed map", "fixed 4 2; keys 5 4; kind 5 = k");
        edges.test("9 kind: values", "values 4 3; kind 4 = v");
        edges.test("9 kind: values of a fixed map", "fixed 4 2; values 5 4; kind 5 = v");
        edges.each("9 kind: nothing", "4 11", "kind # = -");
        edges.test("9 kind: nothing, as a part was let go", "part 4 0 0 0; put 0 0 1 1; kind 4 = -");
        edges.each("9 kind: no such slot", Edges.NO_SLOTS, "kind # = !Index");
    }
}

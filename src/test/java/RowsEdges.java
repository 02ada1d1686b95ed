/** Sentences of promises 22 to 26: rows put, kept, stripped, woven and raised. */
final class RowsEdges {
    private static final String FAR = "-2147483648 2147483647";

    private RowsEdges() {
    }

    static void all(Edges edges) {
        putAll(edges);
        putAllRefused(edges);
        keep(edges);
        keepRefused(edges);
        strip(edges);
        stripRefused(edges);
        weave(edges);
        weaveRefused(edges);
        raise(edges);
        raiseRefused(edges);
    }

    private static void putAll(Edges edges) {
        String two = Edges.THREE + "put 1 0 1 1; put 1 1 2 2;";
        edges.test("22 putAll: at the first place", two + "putAll 0 0 1 = 5; things 0 = 1/1 2/2 5/1 3/2 8/0; things 1 = 1/1 2/2");
        edges.test("22 putAll: at a place between", two + "putAll 0 1 1 = 5; things 0 = 5/1 1/1 2/2 3/2 8/0");
        edges.test("22 putAll: at the place behind the last one", two + "putAll 0 3 1 = 5; things 0 = 5/1 3/2 8/0 1/1 2/2");
        edges.test("22 putAll: into an empty list", Edges.THREE + "putAll 1 0 0 = 3; things 1 = 5/1 3/2 8/0");
        edges.test("22 putAll: at the first place of a part", two + "part 4 0 1 2; putAll 4 0 1 = 3; things 0 = 5/1 1/1 2/2 3/2 8/0;"
                + "things 4 = 1/1 2/2 3/2");
        edges.test("22 putAll: behind the last place of a part", two + "part 4 0 1 2; putAll 4 1 1 = 3; things 0 = 5/1 3/2 1/1 2/2 8/0;"
                + "things 4 = 3/2 1/1 2/2");
        edges.test("22 putAll: copies", "copies 4 2 7 8; putAll 0 0 4 = 2; things 0 = 7/8 7/8");
        edges.test("22 putAll: one alone", "alone 4 7 8; putAll 0 0 4 = 1; things 0 = 7/8");
        edges.test("22 putAll: none of things", Edges.THREE + "none 4; putAll 0 1 4 = 3; things 0 = 5/1 3/2 8/0");
        edges.test("22 putAll: values as the numbers came", Edges.KINDS + "putAll 1 0 10 = 2; things 1 = 4/1 6/2");
        edges.test("22 putAll: values of a fixed map", Edges.KINDS + "values 4 11; putAll 1 0 4 = 2; things 1 = 4/1 6/2");
        edges.test("22 putAll: rising values", "enter 3 9 4 1; enter 3 3 6 2; values 4 3; putAll 1 0 4 = 2; things 1 = 6/2 4/1");
        edges.test("22 putAll: a list into itself, as it is ahead", Edges.THREE + "putAll 0 1 0 = 6;"
                + "things 0 = 5/1 5/1 3/2 8/0 3/2 8/0");
        edges.test("22 putAll: a list into itself at the end", Edges.THREE + "putAll 0 3 0 = 6; things 0 = 5/1 3/2 8/0 5/1 3/2 8/0");
        edges.test("22 putAll: a fixed list into what it looks on, as it is ahead", Edges.KINDS + "putAll 0 2 5 = 6;"
                + "things 0 = 5/1 3/2 5/1 3/2 8/0 8/0");
        edges.test("22 putAll: a part into its list, as it is ahead", Edges.KINDS + "putAll 0 0 4 = 5; things 0 = 3/2 8/0 5/1 3/2 8/0");
        edges.test("22 putAll: a list into its part, as it is ahead", Edges.KINDS + "putAll 4 1 0 = 5;"
                + "things 0 = 5/1 3/2 5/1 3/2 8/0 8/0; things 4 = 3/2 5/1 3/2 8/0 8/0");
        edges.test("22 putAll: a part into itself, as it is ahead", Edges.KINDS + "putAll 4 1 4 = 4; things 0 = 5/1 3/2 3/2 8/0 8/0");
        edges.test("22 putAll: up to 24", "copies 4 24 1 1; putAll 0 0 4 = 24; size 0 = 24");
        edges.test("22 putAll: up to 24, of a list into itself", "copies 4 12 1 1; putAll 0 0 4; putAll 0 12 0 = 24; size 0 = 24");
        edges.test("22 putAll: up to 24, through a part", "copies 4 23 1 1; putAll 0 0 4; part 5 0 3 3; alone 6 2 2; putAll 5 0 6 = 1;"
                + "size 0 = 24; keyAt 0 3 = 2");
        edges.test("22 putAll: none into a full list", Edges.FULL + "putAll 0 0 11 = 24; putAll 0 24 1 = 24; size 0 = 24");
        edges.test("22 putAll: returns how many a part has, not its list", two + "part 4 0 2 2; putAll 4 0 1 = 2");
    }

    private static void putAllRefused(Edges edges) {
        edges.each("22 putAll: no such slot", Edges.NO_SLOTS, "putAll # 0 1 = !Index");
        edges.each("22 putAll: no such slot of the row", Edges.NO_SLOTS, "putAll 0 0 # = !Index");
        edges.each("22 putAll: it holds no list, slot", Edges.NO_LISTS, Edges.KINDS + "putAll # 0 1 = !NoSuch");
        edges.test("22 putAll: it holds nothing", "putAll 4 0 0 = !NoSuch");
        edges.each("22 putAll: the other one holds no row, slot", Edges.NO_ROWS, Edges.KINDS + "putAll 0 0 # = !NoSuch");
        edges.test("22 putAll: the other one holds nothing", "putAll 0 0 4 = !NoSuch");
        edges.each("22 putAll: it cannot be changed, slot", Edges.SHUT_LISTS, Edges.KINDS + "putAll # 0 7 = !Shut");
        edges.each("22 putAll: it cannot be changed, nor would be, slot", Edges.SHUT_LISTS, Edges.KINDS + "putAll # 0 1 = !Shut");
        edges.each("22 putAll: no such place", "-1 4 " + FAR, Edges.THREE + "putAll 0 # 0 = !Argument");
        edges.each("22 putAll: no such place, for none of things", "-1 4", Edges.THREE + "putAll 0 # 1 = !Argument");
        edges.test("22 putAll: no place 1 of an empty list", Edges.THREE + "putAll 1 1 0 = !Argument");
        edges.each("22 putAll: no such place of a part", "-1 2", Edges.THREE + "part 4 0 1 2; putAll 4 # 0 = !Argument");
        edges.test("22 putAll: the list would have 25", Edges.FULL + "alone 4 1 1; putAll 0 0 4 = !State; putAll 0 24 4 = !State");
        edges.test("22 putAll: the list would have 25, of more than one", "copies 4 20 1 1; putAll 0 0 4; copies 4 5 2 2;"
                + "putAll 0 0 4 = !State");
        edges.test("22 putAll: a full list into itself", Edges.FULL + "putAll 0 0 0 = !State");
        edges.test("22 putAll: 13 things into themselves", "copies 4 13 1 1; putAll 0 0 4; putAll 0 0 0 = !State");
        edges.test("22 putAll: the list at the bottom would have 25, through a part", Edges.FULL + "part 4 0 3 3; part 5 4 0 0;"
                + "alone 6 1 1; putAll 4 0 6 = !State; putAll 5 0 6 = !State");
        edges.test("22 putAll: Index, of the other one, ahead of NoSuch", "putAll 4 0 12 = !Index; putAll 2 0 -1 = !Index");
        edges.test("22 putAll: Index ahead of NoSuch, of the other one", "putAll 12 0 4 = !Index; putAll -1 0 2 = !Index");
        edges.test("22 putAll: Index, of the other one, ahead of Shut", "none 4; putAll 4 0 12 = !Index");
        edges.test("22 putAll: Index ahead of Argument", "putAll 0 -1 12 = !Index; putAll 12 -1 0 = !Index");
        edges.test("22 putAll: Index, of the other one, ahead of State", Edges.FULL + "putAll 0 0 -1 = !Index");
        edges.test("22 putAll: NoSuch, of the other one, ahead of Shut", Edges.KINDS + "putAll 5 0 2 = !NoSuch; putAll 6 0 9 = !NoSuch");
        edges.test("22 putAll: NoSuch, of nothing, ahead of Shut", "none 4; putAll 4 0 5 = !NoSuch");
        edges.test("22 putAll: NoSuch ahead of Argument", Edges.KINDS + "putAll 10 -1 0 = !NoSuch; putAll 0 -1 2 = !NoSuch");
        edges.test("22 putAll: NoSuch, of the other one, ahead of State", Edges.FULL + "putAll 0 0 2 = !NoSuch; putAll 0 0 4 = !NoSuch");
        edges.each("22 putAll: Shut ahead of Argument", Edges.SHUT_LISTS, Edges.KINDS + "putAll # -1 0 = !Shut; putAll # 24 1 = !Shut");
        edges.test("22 putAll: Shut ahead of State", Edges.FULL + "fixed 4 0; putAll 4 0 0 = !Shut");
        edges.test("22 putAll: Argument ahead of State", Edges.FULL + "putAll 0 25 0 = !Argument; putAll 0 -1 0 = !Argument");
        edges.test("22 putAll: Argument ahead of State, through a part", Edges.FULL + "part 4 0 1 2; putAll 4 2 0 = !Argument");
    }

    private static void keep(Edges edges) {
        String list = "put 0 0 1 1; put 0 1 2 2; put 0 2 1 1; put 0 3 1 2; put 0 4 2 1; put 0 5 1 1; alone 4 1 1;";
        edges.test("23 keep: just those that are alike to one", list + "keep 0 4 true = 3; things 0 = 1/1 1/1 1/1");
        edges.test("23 keep: or just these taken away", list + "keep 0 4 false = 3; things 0 = 2/2 1/2 2/1");
        edges.test("23 keep: of a row with more than one", list + "put 1 0 1 2; put 1 1 2 2; keep 0 1 true = 4; things 0 = 2/2 1/2");
        edges.test("23 keep: a row with more than one away", list + "put 1 0 1 2; put 1 1 2 2; keep 0 1 false = 2;"
                + "things 0 = 1/1 1/1 2/1 1/1");
        edges.test("23 keep: of a part only", list + "part 5 0 1 4; keep 5 4 true = 2; things 0 = 1/1 1/1 2/1 1/1; things 5 = 1/1");
        edges.test("23 keep: away from a part only", list + "part 5 0 1 4; keep 5 4 false = 1; things 0 = 1/1 2/2 1/2 2/1 1/1;"
                + "things 5 = 2/2 1/2");
        edges.test("23 keep: by a part, not by what is around it", list + "part 5 0 1 2; keep 0 5 true = 5; things 0 = 2/2");
        edges.test("23 keep: a list by its part, as it is ahead", list + "part 5 0 3 5; keep 0 5 false = 2; things 0 = 1/1 2/2 1/1 1/1");
        edges.test("23 keep: a part by its list, as it is ahead", list + "part 5 0 1 4; keep 5 0 true = 0; keep 5 0 false = 3;"
                + "things 0 = 1/1 2/1 1/1; size 5 = 0");
        edges.test("23 keep: itself, all are kept", list + "keep 0 0 true = 0; size 0 = 6");
        edges.test("23 keep: itself, all go", list + "keep 0 0 false = 6; size 0 = 0");
        edges.test("23 keep: by its fixed one, all go", list + "fixed 5 0; keep 0 5 false = 6; size 0 = 0; size 5 = 0");
        edges.test("23 keep: none kept", list + "none 5; keep 0 5 true = 6; size 0 = 0");
        edges.test("23 keep: none taken away", list + "none 5; keep 0 5 false = 0; size 0 = 6");
        edges.test("23 keep: by no copies", list + "copies 5 0 1 1; keep 0 5 false = 0; keep 0 5 true = 6");
        edges.test("23 keep: of an empty list", list + "keep 1 0 true = 0; keep 1 0 false = 0");
        edges.test("23 keep: of a full list", Edges.FULL + "alone 4 7 7; keep 0 4 true = 0; keep 0 4 false = 24");
        edges.test("23 keep: ones with the same hash are not alike", "put 0 0 1 0; alone 4 0 31; keep 0 4 false = 0; keep 0 4 true = 1");
        edges.test("23 keep: of values, with their numbers", Edges.KINDS + "alone 4 6 2; keep 10 4 true = 1; numbers 2 = 3");
        edges.test("23 keep: away from values, with their numbers", Edges.KINDS + "alone 4 6 2; keep 10 4 false = 1; numbers 2 = 9");
        edges.test("23 keep: of values, two alike", "enter 2 9 4 1; enter 2 5 7 7; enter 2 3 4 1; values 4 2; alone 5 4 1;"
                + "keep 4 5 false = 2; numbers 2 = 5");
        edges.test("23 keep: by values", Edges.KINDS + "put 0 0 6 2; keep 0 10 true = 3; things 0 = 6/2");
        edges.test("23 keep: by values of a fixed map", Edges.KINDS + "values 4 11; put 0 0 6 2; keep 0 4 false = 1; things 0 = 5/1 3/2 8/0");
        edges.test("23 keep: values by themselves, as they are ahead", Edges.KINDS + "keep 10 10 true = 0; keep 10 10 false = 2; size 2 = 0");
    }

    private static void keepRefused(Edges edges) {
        for (String isKept : new String[] {"true", "false"}) {
            edges.each("23 keep: no such slot, " + isKept, Edges.NO_SLOTS, "keep # 0 " + isKept + " = !Index");
            edges.each("23 keep: no such slot of the row, " + isKept, Edges.NO_SLOTS, "keep 0 # " + isKept + " = !Index");
            edges.each("23 keep: no row, " + isKept, Edges.NO_ROWS, Edges.KINDS + "keep # 0 " + isKept + " = !NoSuch");
            edges.each("23 keep: no other row, " + isKept, Edges.NO_ROWS, Edges.KINDS + "keep 0 # " + isKept + " = !NoSuch");
            edges.test("23 keep: nothing, " + isKept, "keep 4 0 " + isKept + " = !NoSuch");
            edges.test("23 keep: by nothing, " + isKept, "keep 0 4 " + isKept + " = !NoSuch");
            edges.each("23 keep: it cannot be changed, " + isKept, Edges.SHUT_LISTS, Edges.KINDS + "keep # 0 " + isKept + " = !Shut");
            edges.each("23 keep: it cannot be changed, by itself, " + isKept, Edges.SHUT_LISTS, Edges.KINDS
                    + "keep # # " + isKept + " = !Shut");
            edges.each("23 keep: it cannot be changed, by none, " + isKept, Edges.SHUT_LISTS, Edges.KINDS
                    + "keep # 1 " + isKept + " = !Shut");
            edges.test("23 keep: values of a fixed map, " + isKept, Edges.KINDS + "values 4 11; keep 4 0 " + isKept + " = !Shut;"
                    + "keep 4 4 " + isKept + " = !Shut");
            edges.each("23 keep: it cannot be changed, nor would be, " + isKept, "5 6 7 8 11", Edges.HOLLOW
                    + "keep # 0 " + isKept + " = !Shut");
        }
        edges.test("23 keep: Index, of the other one, ahead of NoSuch", "keep 4 12 true = !Index; keep 2 -1 false = !Index");
        edges.test("23 keep: Index ahead of NoSuch, of the other one", "keep 12 4 true = !Index; keep -1 2 false = !Index");
        edges.test("23 keep: Index, of the other one, ahead of Shut", "none 4; keep 4 12 true = !Index");
        edges.test("23 keep: NoSuch, of the other one, ahead of Shut", Edges.KINDS + "keep 5 2 true = !NoSuch; keep 8 9 false = !NoSuch");
        edges.test("23 keep: NoSuch, of nothing, ahead of Shut", "none 4; keep 4 5 true = !NoSuch");
    }

    private static void strip(Edges edges) {
        String list = "put 0 0 6 1; put 0 1 0 2; put 0 2 5 3; put 0 3 -4 4; put 0 4 9 5; put 0 5 -7 6;";
        edges.test("24 strip: multiples of 2, the least number", list + "strip 0 2 = 3; things 0 = 5/3 9/5 -7/6");
        edges.test("24 strip: multiples of 9, the greatest number", list + "strip 0 9 = 2; things 0 = 6/1 5/3 -4/4 -7/6");
        edges.test("24 strip: the number itself", "put 0 0 7 1; strip 0 7 = 1; size 0 = 0");
        edges.test("24 strip: 0 is a multiple", "put 0 0 0 1; strip 0 5 = 1; size 0 = 0");
        edges.test("24 strip: keys below 0 are multiples, too", "put 0 0 -9 1; put 0 1 -8 1; strip 0 3 = 1; things 0 = -8/1");
        edges.test("24 strip: marks do not count", "put 0 0 5 4; strip 0 2 = 0; size 0 = 1");
        edges.test("24 strip: none is a multiple", list + "strip 0 8 = 1; strip 0 8 = 0; size 0 = 5");
        edges.test("24 strip: of an empty list", "strip 0 2 = 0");
        edges.test("24 strip: of a full list", Edges.FULL + "strip 0 2 = 0; strip 0 7 = 24; size 0 = 0");
        edges.test("24 strip: of a part only", list + "part 4 0 1 3; strip 4 2 = 1; things 0 = 6/1 5/3 -4/4 9/5 -7/6; things 4 = 5/3");
        edges.test("24 strip: of values, with their numbers", "enter 2 9 4 1; enter 2 4 9 2; values 4 2; strip 4 2 = 1; numbers 2 = 4");
        edges.test("24 strip: of values, two alike", "enter 2 9 4 1; enter 2 4 4 1; values 4 2; strip 4 2 = 2; size 2 = 0");
        edges.test("24 strip: of keys, such numbers", "enter 2 9 4 1; enter 2 4 9 2; keys 4 2; strip 4 2 = 1; numbers 2 = 9");
        edges.test("24 strip: of keys, what they have does not count", "enter 3 9 4 1; keys 4 3; strip 4 2 = 0; size 3 = 1");
        edges.test("24 strip: of keys, numbers that are far", "enter 2 -2147483648 1 1; enter 2 2147483647 1 1; enter 2 0 1 1; keys 4 2;"
                + "strip 4 2 = 2; numbers 2 = 2147483647");
        edges.test("24 strip: of no keys and no values", "keys 4 2; values 5 2; strip 4 2 = 0; strip 5 9 = 0");
    }

    private static void stripRefused(Edges edges) {
        edges.each("24 strip: no such slot", Edges.NO_SLOTS, "strip # 2 = !Index");
        edges.each("24 strip: it holds neither row nor keys, slot", "2 3 11", Edges.KINDS + "strip # 2 = !NoSuch");
        edges.test("24 strip: it holds nothing", "strip 4 2 = !NoSuch");
        edges.test("24 strip: it cannot be changed", Edges.KINDS + "strip 5 2 = !Shut; strip 6 2 = !Shut; strip 7 5 = !Shut");
        edges.each("24 strip: it cannot be changed, nor would be, slot", Edges.SHUT_LISTS, Edges.KINDS + "strip # 9 = !Shut");
        edges.each("24 strip: it cannot be changed, without things, slot", "5 6 7 8 10 11", Edges.HOLLOW + "strip # 2 = !Shut");
        edges.test("24 strip: it cannot be changed, keys and values of a fixed map", Edges.KINDS + "keys 4 11; values 5 11;"
                + "strip 4 3 = !Shut; strip 5 2 = !Shut");
        edges.each("24 strip: the number is out of range", "1 10 0 -1 -2 " + FAR, Edges.THREE + "strip 0 # = !Argument");
        edges.each("24 strip: the number is out of range, of an empty list", "1 10 0", "strip 0 # = !Argument");
        edges.each("24 strip: the number is out of range, of keys", "1 10 0", Edges.KINDS + "strip 9 # = !Argument");
        edges.each("24 strip: the number is out of range, of values", "1 10 0", Edges.KINDS + "strip 10 # = !Argument");
        edges.test("24 strip: Index ahead of Argument", "strip 12 0 = !Index; strip -1 10 = !Index");
        edges.each("24 strip: NoSuch ahead of Argument", "2 3 11", Edges.KINDS + "strip # 0 = !NoSuch");
        edges.test("24 strip: NoSuch ahead of Argument, of nothing", "strip 4 10 = !NoSuch");
        edges.each("24 strip: Shut ahead of Argument", Edges.SHUT_LISTS, Edges.KINDS + "strip # 1 = !Shut; strip # 10 = !Shut");
        edges.test("24 strip: Shut ahead of Argument, keys and values", Edges.KINDS + "keys 4 11; values 5 11; strip 4 0 = !Shut;"
                + "strip 5 10 = !Shut");
    }

    private static void weave(Edges edges) {
        String list = "put 0 0 1 1; put 0 1 2 2; put 0 2 1 3; put 0 3 1 4;";
        edges.test("25 weave: behind each thing that has the key", list + "weave 0 1 9 = 3; things 0 = 1/1 1/9 2/2 1/3 1/9 1/4 1/9");
        edges.test("25 weave: behind the last thing", list + "weave 0 2 9 = 1; things 0 = 1/1 2/2 2/9 1/3 1/4;"
                + "put 0 5 7 7; weave 0 7 8 = 1; keyAt 0 6 = 7; markAt 0 6 = 8");
        edges.test("25 weave: not behind those that came", "put 0 0 1 1; weave 0 1 1 = 1; things 0 = 1/1 1/1");
        edges.test("25 weave: the marks of those there do not count", "put 0 0 1 5; weave 0 1 5 = 1; put 0 0 2 1; weave 0 1 1 = 2");
        edges.test("25 weave: none has the key", list + "weave 0 3 9 = 0; size 0 = 4");
        edges.test("25 weave: in an empty list", "weave 0 0 0 = 0");
        edges.test("25 weave: in a part only", list + "part 4 0 1 3; weave 4 1 9 = 1; things 0 = 1/1 2/2 1/3 1/9 1/4; things 4 = 2/2 1/3 1/9");
        edges.test("25 weave: in a part in which none has the key", list + "part 4 0 1 2; weave 4 1 9 = 0; size 0 = 4");
        edges.each("25 weave: the key", "-999 0 999", "put 0 0 # 1; weave 0 # 2 = 1; things 0 = #/1 #/2");
        edges.each("25 weave: the mark", "0 99", "put 0 0 1 1; weave 0 1 # = 1; things 0 = 1/1 1/#");
        edges.test("25 weave: up to 24", "copies 4 12 1 1; putAll 0 0 4; weave 0 1 2 = 12; size 0 = 24; markAt 0 23 = 2; markAt 0 22 = 1");
        edges.test("25 weave: up to 24, through a part", Edges.FULL + "take 0 0; part 4 0 3 4; weave 4 7 1 = 1; size 0 = 24");
        edges.test("25 weave: none in a full list", Edges.FULL + "weave 0 8 1 = 0; size 0 = 24");
    }

    private static void weaveRefused(Edges edges) {
        edges.each("25 weave: no such slot", Edges.NO_SLOTS, "weave # 1 1 = !Index");
        edges.each("25 weave: it holds no list, slot", Edges.NO_LISTS, Edges.KINDS + "weave # 4 1 = !NoSuch");
        edges.test("25 weave: it holds nothing", "weave 4 1 1 = !NoSuch");
        edges.test("25 weave: it cannot be changed", Edges.KINDS + "weave 5 5 1 = !Shut; weave 6 4 1 = !Shut; weave 7 5 1 = !Shut");
        edges.each("25 weave: it cannot be changed, nor would be, slot", Edges.SHUT_LISTS, Edges.KINDS + "weave # 7 1 = !Shut");
        edges.each("25 weave: the key is out of range", "-1000 1000 " + FAR, Edges.THREE + "weave 0 # 1 = !Argument");
        edges.each("25 weave: the mark is out of range", "-1 100 " + FAR, Edges.THREE + "weave 0 5 # = !Argument");
        edges.test("25 weave: the mark is out of range, and none would come", "weave 0 1 100 = !Argument; weave 0 1 -1 = !Argument");
        edges.test("25 weave: the list would have 25", Edges.FULL + "take 0 0; set 0 0 1 1; set 0 22 1 1; weave 0 1 2 = !State");
        edges.test("25 weave: the list would have 26, of 13", "copies 4 13 1 1; putAll 0 0 4; weave 0 1 2 = !State");
        edges.test("25 weave: the list at the bottom would have 25, through a part", Edges.FULL + "part 4 0 3 4; part 5 4 0 1;"
                + "weave 4 7 1 = !State; weave 5 7 1 = !State");
        edges.test("25 weave: Index ahead of Argument", "weave 12 1000 1 = !Index; weave -1 1 100 = !Index");
        edges.each("25 weave: NoSuch ahead of Argument", Edges.NO_LISTS, Edges.KINDS + "weave # 1000 1 = !NoSuch; weave # 1 100 = !NoSuch");
        edges.test("25 weave: NoSuch ahead of Argument, of nothing", "weave 4 1000 1 = !NoSuch");
        edges.each("25 weave: Shut ahead of Argument", Edges.SHUT_LISTS, Edges.KINDS + "weave # 1000 1 = !Shut; weave # 5 -1 = !Shut");
        edges.test("25 weave: Shut ahead of State", Edges.FULL + "fixed 4 0; weave 4 7 1 = !Shut; copies 5 24 1 1; weave 5 1 1 = !Shut");
        edges.test("25 weave: Argument ahead of State", Edges.FULL + "weave 0 7 100 = !Argument; weave 0 7 -1 = !Argument");
    }

    private static void raise(Edges edges) {
        edges.each("26 raise: by", "-9 -1 0 1 9", "put 0 0 0 5; raise 0 # = 1; things 0 = #/5");
        edges.test("26 raise: each thing of a list", Edges.THREE + "raise 0 2 = 3; things 0 = 7/1 5/2 10/0");
        edges.test("26 raise: things of a part only", Edges.KINDS + "raise 4 2 = 2; things 0 = 5/1 5/2 10/0");
        edges.test("26 raise: not behind a part", Edges.THREE + "part 4 0 0 2; raise 4 -3 = 2; things 0 = 2/1 0/2 8/0");
        edges.each("26 raise: each thing of a map", "2 3", "enter # 9 4 1; enter # 3 6 2; raise # -5 = 2; thingOf # 9 = -30; thingOf # 3 = 33;"
                + "hasNumber # 9 = true");
        edges.test("26 raise: an empty list and an empty map", "raise 0 9 = 0; raise 2 -9 = 0");
        edges.test("26 raise: an empty part", Edges.THREE + "part 4 0 1 1; raise 4 9 = 0; things 0 = 5/1 3/2 8/0");
        edges.test("26 raise: a full list", Edges.FULL + "raise 0 1 = 24; keyAt 0 23 = 8");
        edges.test("26 raise: up to 999", "put 0 0 990 1; raise 0 9 = 1; things 0 = 999/1");
        edges.test("26 raise: down to -999", "put 0 0 -990 1; raise 0 -9 = 1; things 0 = -999/1");
        edges.test("26 raise: 999 by 0", "put 0 0 999 1; raise 0 0 = 1; things 0 = 999/1");
        edges.test("26 raise: what is not in the part may be at 999", "put 0 0 999 1; put 0 1 5 5; put 0 2 999 1; part 4 0 1 2;"
                + "raise 4 1 = 1; things 0 = 999/1 6/5 999/1");
    }

    private static void raiseRefused(Edges edges) {
        edges.each("26 raise: no such slot", Edges.NO_SLOTS, "raise # 1 = !Index");
        edges.each("26 raise: it holds neither list nor map, slot", "9 10", Edges.KINDS + "raise # 1 = !NoSuch");
        edges.test("26 raise: it holds nothing", "raise 4 1 = !NoSuch");
        edges.each("26 raise: it cannot be changed, slot", "5 6 7 8 11", Edges.KINDS + "raise # 1 = !Shut");
        edges.each("26 raise: it cannot be changed, by 0, slot", "5 6 7 8 11", Edges.KINDS + "raise # 0 = !Shut");
        edges.each("26 raise: it cannot be changed, without things, slot", "5 6 7 8 9", Edges.HOLLOW + "raise # 1 = !Shut");
        edges.each("26 raise: the number is out of range", "-10 10 " + FAR, Edges.THREE + "raise 0 # = !Argument");
        edges.each("26 raise: the number is out of range, of an empty list", "-10 10 " + FAR, "raise 0 # = !Argument");
        edges.each("26 raise: the number is out of range, of a map", "-10 10", Edges.KINDS + "raise 2 # = !Argument; raise 3 # = !Argument");
        edges.test("26 raise: a key that would come is above 999, the first one", "put 0 0 999 1; put 0 1 1 1; raise 0 1 = !Argument");
        edges.test("26 raise: a key that would come is above 999, the last one", "put 0 0 1 1; put 0 1 991 1; raise 0 9 = !Argument");
        edges.test("26 raise: a key that would come is below -999", "put 0 0 1 1; put 0 1 -999 1; raise 0 -1 = !Argument");
        edges.test("26 raise: a key that would come, through a part", "put 0 0 1 1; put 0 1 999 1; part 4 0 1 2; raise 4 1 = !Argument");
        edges.each("26 raise: a key that would come, of a map", "2 3", "enter # 1 1 1; enter # 2 995 1; raise # 5 = !Argument");
        edges.test("26 raise: Index ahead of Argument", "raise 12 10 = !Index; raise -1 -10 = !Index");
        edges.each("26 raise: NoSuch ahead of Argument", "9 10", Edges.KINDS + "raise # 10 = !NoSuch");
        edges.test("26 raise: NoSuch ahead of Argument, of nothing", "raise 4 -10 = !NoSuch");
        edges.each("26 raise: Shut ahead of Argument, the number", "5 6 7 8 11", Edges.KINDS + "raise # 10 = !Shut");
        edges.test("26 raise: Shut ahead of Argument, a key that would come", "put 0 0 999 1; fixed 4 0; raise 4 1 = !Shut;"
                + "alone 5 999 1; raise 5 1 = !Shut; copies 6 2 -999 1; raise 6 -1 = !Shut; enter 2 1 999 1; fixed 7 2; raise 7 1 = !Shut");
    }
}

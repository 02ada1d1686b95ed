/** Sentences of promises 27 to 36: moved, searched, sorted. */
final class MovedEdges {
    private static final String FAR = "-2147483648 2147483647";
    private static final String FIVE = "put 0 0 2 5; put 0 1 1 7; put 0 2 2 3; put 0 3 -4 5; put 0 4 1 1;";

    private MovedEdges() {
    }

    static void all(Edges edges) {
        sort(edges);
        sortRefused(edges);
        search(edges);
        turn(edges);
        swap(edges);
        rotate(edges);
        fill(edges);
        rowIn(edges);
        rowInRefused(edges);
        often(edges);
        areApart(edges);
        end(edges);
    }

    private static void sort(Edges edges) {
        edges.test("27 sort: by rising keys", FIVE + "sort 0 k = 5; things 0 = -4/5 1/7 1/1 2/5 2/3");
        edges.test("27 sort: by falling keys", FIVE + "sort 0 K = 5; things 0 = 2/5 2/3 1/7 1/1 -4/5");
        edges.test("27 sort: by rising marks", FIVE + "sort 0 m = 5; things 0 = 1/1 2/3 2/5 -4/5 1/7");
        edges.test("27 sort: by falling marks", FIVE + "sort 0 M = 5; things 0 = 1/7 2/5 -4/5 2/3 1/1");
        edges.test("27 sort: keys that are alike stay as they stand, marks falling", "put 0 0 1 9; put 0 1 1 5; put 0 2 1 7;"
                + "sort 0 k; things 0 = 1/9 1/5 1/7; sort 0 K; things 0 = 1/9 1/5 1/7");
        edges.test("27 sort: marks that are alike stay as they stand, keys falling", "put 0 0 9 1; put 0 1 5 1; put 0 2 7 1;"
                + "sort 0 m; things 0 = 9/1 5/1 7/1; sort 0 M; things 0 = 9/1 5/1 7/1");
        edges.test("27 sort: the least and the greatest keys and marks", "put 0 0 999 0; put 0 1 -999 99; sort 0 k;"
                + "things 0 = -999/99 999/0; sort 0 K; things 0 = 999/0 -999/99; sort 0 M; things 0 = -999/99 999/0");
        edges.test("27 sort: sorted as it is", "put 0 0 1 1; put 0 1 2 2; sort 0 k = 2; things 0 = 1/1 2/2");
        edges.test("27 sort: a part only", FIVE + "part 4 0 1 4; sort 4 k = 3; things 0 = 2/5 -4/5 1/7 2/3 1/1; things 4 = -4/5 1/7 2/3");
        edges.test("27 sort: a part up to the end", FIVE + "part 4 0 3 5; sort 4 K = 2; things 0 = 2/5 1/7 2/3 1/1 -4/5");
        edges.each("27 sort: an empty list", "k K m M", "sort 1 # = 0");
        edges.test("27 sort: an empty part", FIVE + "part 4 0 2 2; sort 4 k = 0; things 0 = 2/5 1/7 2/3 -4/5 1/1");
        edges.test("27 sort: one thing", "put 0 0 1 1; sort 0 M = 1; things 0 = 1/1");
        edges.test("27 sort: a full list", Edges.FULL + "set 0 23 1 1; sort 0 k = 24; keyAt 0 0 = 1; keyAt 0 1 = 7; keyAt 0 23 = 7");
    }

    private static void sortRefused(Edges edges) {
        edges.each("27 sort: no such slot", Edges.NO_SLOTS, "sort # k = !Index");
        edges.each("27 sort: it holds no list, slot", Edges.NO_LISTS, Edges.KINDS + "sort # k = !NoSuch");
        edges.test("27 sort: it holds nothing", "sort 4 k = !NoSuch");
        edges.each("27 sort: it cannot be changed, slot", Edges.SHUT_LISTS, Edges.KINDS + "sort # k = !Shut; sort # M = !Shut");
        edges.each("27 sort: it cannot be changed, without things, slot", Edges.SHUT_HOLLOW_LISTS, Edges.HOLLOW + "sort # k = !Shut");
        edges.each("27 sort: there is no such way", "a j l L n N J v #0 #255 #65535", FIVE + "sort 0 # = !Argument");
        edges.test("27 sort: there is no such way, of an empty list", "sort 0 x = !Argument");
        edges.test("27 sort: Index ahead of Argument", "sort 12 x = !Index; sort -1 x = !Index");
        edges.each("27 sort: NoSuch ahead of Argument", Edges.NO_LISTS, Edges.KINDS + "sort # x = !NoSuch");
        edges.test("27 sort: NoSuch ahead of Argument, of nothing", "sort 4 x = !NoSuch");
        edges.each("27 sort: Shut ahead of Argument", Edges.SHUT_LISTS, Edges.KINDS + "sort # x = !Shut");
    }

    private static void search(Edges edges) {
        String rising = "put 0 0 -2 1; put 0 1 1 1; put 0 2 1 0; put 0 3 5 1;";
        edges.each("28 search: it is there", "-2 1 5", rising + "search 0 # = 100");
        edges.test("28 search: no key is less", rising + "search 0 -3 = -1; search 0 -2147483648 = -1");
        edges.test("28 search: one key is less", rising + "search 0 -1 = -2; search 0 0 = -2");
        edges.test("28 search: keys that stay are less each", rising + "search 0 2 = -4; search 0 4 = -4");
        edges.test("28 search: all keys are less", rising + "search 0 6 = -5; search 0 2147483647 = -5");
        edges.test("28 search: an empty list", "search 0 0 = -1; search 0 -999 = -1; search 0 999 = -1");
        edges.test("28 search: a full list", Edges.FULL + "search 0 7 = 100; search 0 8 = -25; search 0 6 = -1");
        edges.test("28 search: one thing", Edges.KINDS + "search 7 5 = 100; search 7 4 = -1; search 7 6 = -2");
        edges.test("28 search: copies, fixed ones and none", Edges.KINDS + "search 6 4 = 100; search 6 5 = -3; search 8 5 = -1;"
                + "sort 0 k; search 5 8 = 100; search 5 4 = -2");
        edges.test("28 search: of a part, only what is less in it", rising + "part 4 0 1 3; search 4 1 = 100; search 4 -2 = -1;"
                + "search 4 5 = -3; search 4 0 = -1");
        edges.test("28 search: marks may fall", "put 0 0 1 9; put 0 1 2 5; put 0 2 2 1; search 0 2 = 100; search 0 3 = -4");
        edges.test("28 search: a part that rises in a list that does not", Edges.KINDS + "search 4 8 = 100; search 4 4 = -2");
        edges.each("28 search: no such slot", Edges.NO_SLOTS, "search # 1 = !Index");
        edges.each("28 search: it holds no list, slot", Edges.NO_LISTS, Edges.KINDS + "search # 4 = !NoSuch");
        edges.test("28 search: it holds nothing", "search 4 1 = !NoSuch");
        edges.test("28 search: the second key is less than the first one", "put 0 0 2 0; put 0 1 1 0; put 0 2 3 0; search 0 3 = !State");
        edges.test("28 search: the last key is less than the one ahead of it", "put 0 0 1 0; put 0 1 3 0; put 0 2 2 0; search 0 1 = !State");
        edges.test("28 search: in a fixed list", Edges.KINDS + "search 5 5 = !State; search 0 5 = !State");
        edges.test("28 search: in a part", FIVE + "part 4 0 2 4; search 4 2 = !State");
    }

    private static void turn(Edges edges) {
        edges.test("29 turn: the last thing is the first one then", Edges.THREE + "turn 0 = 3; things 0 = 8/0 3/2 5/1");
        edges.test("29 turn: two things", "put 0 0 1 1; put 0 1 2 2; turn 0 = 2; things 0 = 2/2 1/1");
        edges.test("29 turn: four things", Edges.THREE + "put 0 3 9 9; turn 0 = 4; things 0 = 9/9 8/0 3/2 5/1");
        edges.test("29 turn: one thing", "put 0 0 1 1; turn 0 = 1; things 0 = 1/1");
        edges.test("29 turn: an empty list", "turn 0 = 0; turn 1 = 0");
        edges.test("29 turn: a part only", FIVE + "part 4 0 1 4; turn 4 = 3; things 0 = 2/5 -4/5 2/3 1/7 1/1");
        edges.test("29 turn: an empty part", Edges.THREE + "part 4 0 1 1; turn 4 = 0; things 0 = 5/1 3/2 8/0");
        edges.test("29 turn: a full list", Edges.FULL + "set 0 0 1 1; turn 0 = 24; keyAt 0 23 = 1; keyAt 0 0 = 7");
        edges.each("29 turn: no such slot", Edges.NO_SLOTS, "turn # = !Index");
        edges.each("29 turn: it holds no list, slot", Edges.NO_LISTS, Edges.KINDS + "turn # = !NoSuch");
        edges.test("29 turn: it holds nothing", "turn 4 = !NoSuch");
        edges.each("29 turn: it cannot be changed, slot", Edges.SHUT_LISTS, Edges.KINDS + "turn # = !Shut");
        edges.each("29 turn: it cannot be changed, without things, slot", Edges.SHUT_HOLLOW_LISTS, Edges.HOLLOW + "turn # = !Shut");
    }

    private static void swap(Edges edges) {
        edges.test("30 swap: the first and the last thing", Edges.THREE + "swap 0 0 2 = 3; things 0 = 8/0 3/2 5/1");
        edges.test("30 swap: the other way round", Edges.THREE + "swap 0 2 0 = 3; things 0 = 8/0 3/2 5/1");
        edges.test("30 swap: one beside the other", Edges.THREE + "swap 0 1 2 = 3; things 0 = 5/1 8/0 3/2");
        edges.each("30 swap: the same place", "0 1 2", Edges.THREE + "swap 0 # # = 3; things 0 = 5/1 3/2 8/0");
        edges.test("30 swap: in a part, from its first place on", FIVE + "part 4 0 1 4; swap 4 0 2 = 3; things 0 = 2/5 -4/5 2/3 1/7 1/1");
        edges.test("30 swap: in a full list", Edges.FULL + "set 0 23 1 1; swap 0 0 23 = 24; keyAt 0 0 = 1; keyAt 0 23 = 7");
        edges.each("30 swap: no such slot", Edges.NO_SLOTS, "swap # 0 0 = !Index");
        edges.each("30 swap: it holds no list, slot", Edges.NO_LISTS, Edges.KINDS + "swap # 0 0 = !NoSuch");
        edges.test("30 swap: it holds nothing", "swap 4 0 0 = !NoSuch");
        edges.each("30 swap: it cannot be changed, slot", "5 6", Edges.KINDS + "swap # 0 1 = !Shut");
        edges.each("30 swap: it cannot be changed, the same place, slot", "5 6 7", Edges.KINDS + "swap # 0 0 = !Shut");
        edges.each("30 swap: no such place of the one", "-1 3 " + FAR, Edges.THREE + "swap 0 # 0 = !Argument");
        edges.each("30 swap: no such place of the other one", "-1 3 " + FAR, Edges.THREE + "swap 0 0 # = !Argument");
        edges.each("30 swap: no such place, twice the same", "-1 3 " + FAR, Edges.THREE + "swap 0 # # = !Argument");
        edges.test("30 swap: no place 0 of an empty list", "swap 0 0 0 = !Argument");
        edges.each("30 swap: no such place of a part", "-1 2", Edges.FULL + "part 4 0 1 3; swap 4 # 0 = !Argument; swap 4 1 # = !Argument");
        edges.test("30 swap: Index ahead of Argument", "swap 12 -1 0 = !Index; swap -1 0 24 = !Index");
        edges.each("30 swap: NoSuch ahead of Argument", Edges.NO_LISTS, Edges.KINDS + "swap # -1 0 = !NoSuch; swap # 0 24 = !NoSuch");
        edges.test("30 swap: NoSuch ahead of Argument, of nothing", "swap 4 -1 0 = !NoSuch");
        edges.each("30 swap: Shut ahead of Argument", Edges.SHUT_LISTS, Edges.KINDS + "swap # -1 0 = !Shut; swap # 0 24 = !Shut");
        edges.each("30 swap: Shut ahead of Argument, without things", Edges.SHUT_HOLLOW_LISTS, Edges.HOLLOW + "swap # 0 0 = !Shut");
    }

    private static void rotate(Edges edges) {
        edges.test("31 rotate: by 1, the last one coming round", Edges.THREE + "rotate 0 1 = 3; things 0 = 8/0 5/1 3/2");
        edges.test("31 rotate: by 2", Edges.THREE + "rotate 0 2 = 3; things 0 = 3/2 8/0 5/1");
        edges.test("31 rotate: by -1, the first one coming round", Edges.THREE + "rotate 0 -1 = 3; things 0 = 3/2 8/0 5/1");
        edges.each("31 rotate: by 0, or all round", "0 3 -3 99 -99", Edges.THREE + "rotate 0 # = 3; things 0 = 5/1 3/2 8/0");
        edges.each("31 rotate: by more than there are", "4 -2 100 -98", Edges.THREE + "rotate 0 # = 3; things 0 = 8/0 5/1 3/2");
        edges.test("31 rotate: by -100", Edges.THREE + "rotate 0 -100 = 3; things 0 = 3/2 8/0 5/1");
        edges.each("31 rotate: an empty list", "-100 -1 0 1 100", "rotate 0 # = 0; size 0 = 0");
        edges.test("31 rotate: an empty part", Edges.THREE + "part 4 0 1 1; rotate 4 1 = 0; things 0 = 5/1 3/2 8/0");
        edges.each("31 rotate: one thing", "-100 -1 1 100", "put 0 0 1 1; rotate 0 # = 1; things 0 = 1/1");
        edges.test("31 rotate: a part only", FIVE + "part 4 0 1 4; rotate 4 1 = 3; things 0 = 2/5 -4/5 1/7 2/3 1/1");
        edges.test("31 rotate: a full list", Edges.FULL + "set 0 0 1 1; rotate 0 100 = 24; keyAt 0 4 = 1; keyAt 0 0 = 7");
        edges.each("31 rotate: no such slot", Edges.NO_SLOTS, "rotate # 1 = !Index");
        edges.each("31 rotate: it holds no list, slot", Edges.NO_LISTS, Edges.KINDS + "rotate # 1 = !NoSuch");
        edges.test("31 rotate: it holds nothing", "rotate 4 1 = !NoSuch");
        edges.each("31 rotate: it cannot be changed, slot", Edges.SHUT_LISTS, Edges.KINDS + "rotate # 1 = !Shut");
        edges.each("31 rotate: it cannot be changed, by 0, slot", Edges.SHUT_LISTS, Edges.KINDS + "rotate # 0 = !Shut");
        edges.each("31 rotate: it cannot be changed, without things, slot", Edges.SHUT_HOLLOW_LISTS, Edges.HOLLOW + "rotate # 1 = !Shut");
        edges.each("31 rotate: the number is out of range", "-101 101 " + FAR, Edges.THREE + "rotate 0 # = !Argument");
        edges.each("31 rotate: the number is out of range, of an empty list", "-101 101 " + FAR, "rotate 0 # = !Argument");
        edges.test("31 rotate: Index ahead of Argument", "rotate 12 101 = !Index; rotate -1 -101 = !Index");
        edges.each("31 rotate: NoSuch ahead of Argument", Edges.NO_LISTS, Edges.KINDS + "rotate # 101 = !NoSuch");
        edges.test("31 rotate: NoSuch ahead of Argument, of nothing", "rotate 4 -101 = !NoSuch");
        edges.each("31 rotate: Shut ahead of Argument", Edges.SHUT_LISTS, Edges.KINDS + "rotate # 101 = !Shut; rotate # -101 = !Shut");
    }

    private static void fill(Edges edges) {
        edges.test("32 fill: all places", Edges.THREE + "fill 0 7 8 = 3; things 0 = 7/8 7/8 7/8");
        edges.test("32 fill: those of a part only", FIVE + "part 4 0 1 4; fill 4 7 8 = 3; things 0 = 2/5 7/8 7/8 7/8 1/1");
        edges.test("32 fill: an empty list", "fill 0 7 8 = 0; size 0 = 0");
        edges.test("32 fill: an empty part", Edges.THREE + "part 4 0 1 1; fill 4 7 8 = 0; things 0 = 5/1 3/2 8/0");
        edges.test("32 fill: a full list", Edges.FULL + "fill 0 1 2 = 24; keyAt 0 0 = 1; markAt 0 23 = 2");
        edges.each("32 fill: the key", "-999 0 999", "put 0 0 1 1; fill 0 # 1 = 1; things 0 = #/1");
        edges.each("32 fill: the mark", "0 99", "put 0 0 1 1; fill 0 1 # = 1; things 0 = 1/#");
        edges.each("32 fill: no such slot", Edges.NO_SLOTS, "fill # 1 1 = !Index");
        edges.each("32 fill: it holds no list, slot", Edges.NO_LISTS, Edges.KINDS + "fill # 1 1 = !NoSuch");
        edges.test("32 fill: it holds nothing", "fill 4 1 1 = !NoSuch");
        edges.each("32 fill: it cannot be changed, slot", Edges.SHUT_LISTS, Edges.KINDS + "fill # 1 1 = !Shut");
        edges.test("32 fill: it cannot be changed, nor would be", Edges.KINDS + "fill 6 4 1 = !Shut; fill 7 5 1 = !Shut; fill 8 1 1 = !Shut");
        edges.each("32 fill: the key is out of range", "-1000 1000 " + FAR, Edges.THREE + "fill 0 # 1 = !Argument");
        edges.each("32 fill: the mark is out of range", "-1 100 " + FAR, Edges.THREE + "fill 0 1 # = !Argument");
        edges.test("32 fill: the key or mark is out of range, of an empty list", "fill 0 1000 1 = !Argument; fill 0 1 100 = !Argument");
        edges.test("32 fill: Index ahead of Argument", "fill 12 1000 1 = !Index; fill -1 1 100 = !Index");
        edges.each("32 fill: NoSuch ahead of Argument", Edges.NO_LISTS, Edges.KINDS + "fill # 1000 1 = !NoSuch; fill # 1 -1 = !NoSuch");
        edges.test("32 fill: NoSuch ahead of Argument, of nothing", "fill 4 1000 1 = !NoSuch");
        edges.each("32 fill: Shut ahead of Argument", Edges.SHUT_LISTS, Edges.KINDS + "fill # 1000 1 = !Shut; fill # 1 100 = !Shut");
    }

    private static void rowIn(Edges edges) {
        String list = "put 0 0 1 1; put 0 1 2 2; put 0 2 1 1; put 0 3 1 1; put 0 4 2 2; put 0 5 1 2;";
        String pair = list + "put 1 0 1 1; put 1 1 2 2;";
        edges.test("33 rowIn: the first such place", pair + "rowIn 0 1 false = 0");
        edges.test("33 rowIn: the last such place", pair + "rowIn 0 1 true = 3");
        edges.test("33 rowIn: the only such place", list + "put 1 0 2 2; put 1 1 1 1; rowIn 0 1 false = 1; rowIn 0 1 true = 1");
        edges.test("33 rowIn: up to the last thing", list + "put 1 0 2 2; put 1 1 1 2; rowIn 0 1 false = 4; rowIn 0 1 true = 4");
        edges.test("33 rowIn: one thing", list + "alone 4 1 1; rowIn 0 4 false = 0; rowIn 0 4 true = 3");
        edges.test("33 rowIn: places may lie over each other", Edges.FULL + "copies 4 23 7 7; rowIn 0 4 false = 0; rowIn 0 4 true = 1");
        edges.test("33 rowIn: all of it", list + "rowIn 0 0 false = 0; rowIn 0 0 true = 0");
        edges.test("33 rowIn: of a part, from its first place on", list + "part 4 0 2 5; alone 5 2 2; rowIn 4 5 false = 2; rowIn 4 5 true = 2");
        edges.test("33 rowIn: they do not stand so", list + "put 1 0 2 2; put 1 1 2 2; rowIn 0 1 false = -1; rowIn 0 1 true = -1");
        edges.test("33 rowIn: they stand, but not one beside the other", list + "put 1 0 2 2; put 1 1 1 1; put 1 2 2 2;"
                + "rowIn 0 1 false = -1; rowIn 0 1 true = -1");
        edges.test("33 rowIn: another mark", list + "put 1 0 1 1; put 1 1 2 1; rowIn 0 1 false = -1");
        edges.test("33 rowIn: another key", list + "put 1 0 1 1; put 1 1 3 2; rowIn 0 1 true = -1");
        edges.test("33 rowIn: things with the same hashes", "put 0 0 1 0; alone 4 0 31; rowIn 0 4 false = -1");
        edges.test("33 rowIn: begun at the end", list + "put 1 0 1 2; put 1 1 0 0; rowIn 0 1 false = -1; rowIn 0 1 true = -1");
        edges.test("33 rowIn: begun at a part's end", list + "part 4 0 0 4; part 5 0 3 5; rowIn 4 5 true = 0; part 4 0 2 4;"
                + "rowIn 4 5 false = -1; rowIn 4 5 true = -1");
        edges.test("33 rowIn: a longer one", list + "part 4 0 0 5; rowIn 4 0 false = -1; rowIn 4 0 true = -1");
        edges.test("33 rowIn: one thing in an empty list", list + "alone 4 1 1; rowIn 1 4 false = -1; rowIn 1 4 true = -1");
        edges.test("33 rowIn: of none of things 0", list + "none 4; rowIn 0 4 false = 0");
        edges.test("33 rowIn: of none of things, with isLast how many there are", list + "none 4; rowIn 0 4 true = 6");
        edges.test("33 rowIn: of an empty list and no copies, how many there are", Edges.KINDS + "copies 6 0 1 1; rowIn 0 1 true = 3;"
                + "rowIn 4 6 true = 2; rowIn 4 6 false = 0");
        edges.test("33 rowIn: none in none", "none 4; rowIn 0 4 false = 0; rowIn 0 4 true = 0; rowIn 4 1 true = 0");
    }

    private static void rowInRefused(Edges edges) {
        edges.each("33 rowIn: no such slot", Edges.NO_SLOTS, "rowIn # 0 false = !Index");
        edges.each("33 rowIn: no such slot of the other one", Edges.NO_SLOTS, "rowIn 0 # true = !Index");
        edges.each("33 rowIn: it holds no list, slot", Edges.NO_LISTS, Edges.KINDS + "rowIn # 0 false = !NoSuch");
        edges.each("33 rowIn: the other one holds no list, slot", Edges.NO_LISTS, Edges.KINDS + "rowIn 0 # true = !NoSuch");
        edges.test("33 rowIn: it holds nothing", "rowIn 4 0 false = !NoSuch");
        edges.test("33 rowIn: the other one holds nothing", "rowIn 0 4 false = !NoSuch");
        edges.test("33 rowIn: values without things are no list", "values 4 2; rowIn 0 4 false = !NoSuch; rowIn 4 0 false = !NoSuch");
        edges.test("33 rowIn: Index, of the other one, ahead of NoSuch", "rowIn 4 12 false = !Index; rowIn 2 -1 true = !Index");
        edges.test("33 rowIn: Index ahead of NoSuch, of the other one", "rowIn 12 4 false = !Index; rowIn -1 2 true = !Index");
    }

    private static void often(Edges edges) {
        String list = "put 0 0 1 1; put 0 1 2 2; put 0 2 1 1; put 0 3 1 2; put 0 4 1 1;";
        edges.test("34 often: how many are alike", list + "often 0 1 1 = 3; often 0 2 2 = 1");
        edges.test("34 often: none", list + "often 0 3 3 = 0");
        edges.test("34 often: another mark, or another key", list + "often 0 2 1 = 0; often 0 1 3 = 0");
        edges.test("34 often: the same hash", "put 0 0 1 0; often 0 0 31 = 0; often 0 1 0 = 1");
        edges.test("34 often: in a part only", list + "part 4 0 1 4; often 4 1 1 = 1");
        edges.test("34 often: copies, one alone, none", Edges.KINDS + "often 6 4 1 = 2; often 7 5 1 = 1; often 8 0 0 = 0; often 5 8 0 = 1");
        edges.test("34 often: all of 24", Edges.FULL + "often 0 7 7 = 24");
        edges.test("34 often: an empty list", "often 0 0 0 = 0");
        edges.test("34 often: of values", "enter 2 9 4 1; enter 2 3 4 1; enter 2 5 4 2; values 4 2; often 4 4 1 = 2; often 4 4 2 = 1");
        edges.test("34 often: of values of a fixed map, and of no values", Edges.KINDS + "values 4 11; often 4 6 2 = 1; values 5 3;"
                + "often 5 0 0 = 0");
        edges.test("34 often: the least and the greatest key and mark", "put 0 0 -999 0; put 0 1 999 99; often 0 -999 0 = 1; often 0 999 99 = 1");
        edges.test("34 often: a key or mark out of range is that of none", list + "often 0 1000 1 = 0; often 0 -1000 1 = 0;"
                + "often 0 1 100 = 0; often 0 1 -1 = 0");
        edges.each("34 often: no such slot", Edges.NO_SLOTS, "often # 1 1 = !Index");
        edges.each("34 often: it holds no row, slot", Edges.NO_ROWS, Edges.KINDS + "often # 4 1 = !NoSuch");
        edges.test("34 often: it holds nothing", "often 4 1 1 = !NoSuch");
    }

    private static void areApart(Edges edges) {
        edges.test("35 areApart: none is alike", Edges.THREE + "put 1 0 5 2; put 1 1 4 1; areApart 0 1 = true; areApart 1 0 = true");
        edges.test("35 areApart: the first one is alike", Edges.THREE + "alone 4 5 1; areApart 0 4 = false; areApart 4 0 = false");
        edges.test("35 areApart: the last one is alike to the last one", Edges.THREE + "put 1 0 9 9; put 1 1 8 0; areApart 0 1 = false;"
                + "areApart 1 0 = false");
        edges.test("35 areApart: the same key, or the same mark", Edges.THREE + "alone 4 5 2; areApart 0 4 = true; alone 4 9 1;"
                + "areApart 0 4 = true");
        edges.test("35 areApart: the same hash", "put 0 0 1 0; alone 4 0 31; areApart 0 4 = true");
        edges.test("35 areApart: parts of a list", Edges.THREE + "part 4 0 0 1; part 5 0 1 3; areApart 4 5 = true; areApart 5 4 = true;"
                + "part 5 0 0 3; areApart 4 5 = false");
        edges.test("35 areApart: itself", Edges.KINDS + "areApart 0 0 = false; areApart 7 7 = false; areApart 10 10 = false");
        edges.test("35 areApart: without things", Edges.THREE + "areApart 0 1 = true; areApart 1 0 = true; areApart 1 1 = true; none 4;"
                + "areApart 4 4 = true; areApart 4 0 = true; copies 5 0 5 1; areApart 5 0 = true");
        edges.test("35 areApart: values and a list", Edges.KINDS + "areApart 10 0 = true; areApart 0 10 = true; areApart 10 6 = false;"
                + "areApart 6 10 = false");
        edges.test("35 areApart: two of values", "enter 2 9 4 1; enter 3 5 4 1; values 4 2; values 5 3; areApart 4 5 = false; enter 3 5 4 2;"
                + "areApart 4 5 = true");
        edges.test("35 areApart: values of a fixed map", Edges.KINDS + "values 4 11; areApart 4 10 = false; areApart 4 7 = true");
        edges.test("35 areApart: no values", Edges.THREE + "values 4 2; areApart 4 0 = true; areApart 0 4 = true; areApart 4 4 = true");
        edges.each("35 areApart: no such slot", Edges.NO_SLOTS, "areApart # 0 = !Index");
        edges.each("35 areApart: no such slot of the other one", Edges.NO_SLOTS, "areApart 0 # = !Index");
        edges.each("35 areApart: it holds no row, slot", Edges.NO_ROWS, Edges.KINDS + "areApart # 0 = !NoSuch");
        edges.each("35 areApart: the other one holds no row, slot", Edges.NO_ROWS, Edges.KINDS + "areApart 0 # = !NoSuch");
        edges.test("35 areApart: it holds nothing", "areApart 4 0 = !NoSuch; areApart 4 4 = !NoSuch");
        edges.test("35 areApart: the other one holds nothing", "areApart 0 4 = !NoSuch");
        edges.test("35 areApart: Index, of the other one, ahead of NoSuch", "areApart 4 12 = !Index; areApart 2 -1 = !Index");
        edges.test("35 areApart: Index ahead of NoSuch, of the other one", "areApart 12 4 = !Index; areApart -1 2 = !Index");
    }

    private static void end(Edges edges) {
        edges.test("36 end: the least key at the first place", "put 0 0 -3 9; put 0 1 7 1; put 0 2 2 0; end 0 false = -3");
        edges.test("36 end: the least key at the last place", "put 0 0 3 9; put 0 1 7 1; put 0 2 -2 0; end 0 false = -2");
        edges.test("36 end: the greatest key at the first place", "put 0 0 9 9; put 0 1 7 1; put 0 2 2 0; end 0 true = 9");
        edges.test("36 end: the greatest key at the last place", "put 0 0 -9 9; put 0 1 -7 1; put 0 2 -2 0; end 0 true = -2");
        edges.test("36 end: marks do not count", "put 0 0 1 99; put 0 1 2 0; end 0 true = 2; end 0 false = 1");
        edges.test("36 end: keys that are all below 0, or all above", "put 0 0 -5 0; put 0 1 -6 0; end 0 true = -5; put 1 0 5 0; put 1 1 6 0;"
                + "end 1 false = 5");
        edges.test("36 end: the farthest keys", "put 0 0 999 0; put 0 1 -999 0; end 0 true = 999; end 0 false = -999");
        edges.test("36 end: one thing", Edges.KINDS + "end 7 true = 5; end 7 false = 5; end 6 true = 4; end 6 false = 4");
        edges.test("36 end: of a part only", "put 0 0 9 0; put 0 1 1 0; put 0 2 2 0; put 0 3 -9 0; part 4 0 1 3; end 4 true = 2; end 4 false = 1");
        edges.test("36 end: of values, not their numbers", "enter 2 9 4 1; enter 2 -3 6 2; values 4 2; end 4 true = 6; end 4 false = 4");
        edges.test("36 end: of values of a fixed map, and a fixed list", Edges.KINDS + "values 4 11; end 4 true = 6; end 5 false = 3");
        edges.each("36 end: no such slot", Edges.NO_SLOTS, "end # true = !Index; end # false = !Index");
        edges.each("36 end: it holds no row, slot", Edges.NO_ROWS, Edges.KINDS + "end # true = !NoSuch; end # false = !NoSuch");
        edges.test("36 end: it holds nothing", "end 4 true = !NoSuch; end 4 false = !NoSuch");
        edges.each("36 end: it has no things, slot", "0 1 4 5 6 7 8 11", Edges.HOLLOW + "end # true = !State; end # false = !State");
        edges.each("36 end: NoSuch ahead of State", "2 3 9 10", Edges.HOLLOW + "end # true = !NoSuch");
    }
}

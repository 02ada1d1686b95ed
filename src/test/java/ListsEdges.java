/** Sentences of promises 14 to 21: lists, thing by thing, and what is wiped. */
final class ListsEdges {
    private static final String FAR = "-2147483648 2147483647";
    private static final String FULL_PARTS = Edges.FULL + "part 4 0 3 5; part 5 4 1 1; fixed 6 0; fixed 7 4;";

    private ListsEdges() {
    }

    static void all(Edges edges) {
        at(edges, "14 keyAt", "5", "8", "3");
        at(edges, "15 markAt", "1", "0", "2");
        placeOf(edges);
        put(edges);
        putRefused(edges);
        set(edges);
        setRefused(edges);
        take(edges);
        drop(edges);
        dropRefused(edges);
        wipe(edges);
    }

    private static void at(Edges edges, String promise, String first, String last, String partsFirst) {
        String call = promise.substring(3);
        edges.test(promise + ": the first place", Edges.THREE + call + " 0 0 = " + first);
        edges.test(promise + ": the last place", Edges.THREE + call + " 0 2 = " + last);
        edges.test(promise + ": the first place of a part", Edges.KINDS + call + " 4 0 = " + partsFirst);
        edges.test(promise + ": the last place of a part", Edges.KINDS + call + " 4 1 = " + last);
        edges.test(promise + ": of a fixed list", Edges.KINDS + call + " 5 2 = " + last);
        edges.test(promise + ": of copies, the last one", "copies 4 24 3 2; " + call + " 4 23 = " + partsFirst);
        edges.test(promise + ": of one alone", "alone 4 3 2; " + call + " 4 0 = " + partsFirst);
        edges.test(promise + ": the last place of a full list", Edges.FULL + call + " 0 23 = 7");
        edges.each(promise + ": no such slot", Edges.NO_SLOTS, call + " # 0 = !Index");
        edges.each(promise + ": it holds no list, slot", Edges.NO_LISTS, Edges.KINDS + call + " # 0 = !NoSuch");
        edges.test(promise + ": it holds nothing", call + " 4 0 = !NoSuch");
        edges.each(promise + ": no such place", "-1 3 " + FAR, Edges.THREE + call + " 0 # = !Argument");
        edges.each(promise + ": no such place of a part", "-1 2 " + FAR, Edges.THREE
                + "part 4 0 0 2; " + call + " 4 # = !Argument");
        edges.test(promise + ": no place ahead of a part", Edges.KINDS + call + " 4 -1 = !Argument");
        edges.test(promise + ": no place of an empty list", call + " 0 0 = !Argument");
        edges.each(promise + ": no place of an empty list, slot", "4 5 6 7 8", Edges.HOLLOW + call + " # 0 = !Argument");
        edges.test(promise + ": no place 1 of one alone", Edges.KINDS + call + " 7 1 = !Argument");
        edges.test(promise + ": no place behind copies", Edges.KINDS + call + " 6 2 = !Argument");
        edges.test(promise + ": no place 24 of a full list", Edges.FULL + call + " 0 24 = !Argument");
        edges.test(promise + ": Index ahead of Argument", call + " 12 -1 = !Index");
        edges.each(promise + ": NoSuch ahead of Argument", Edges.NO_LISTS, Edges.KINDS + call + " # -1 = !NoSuch");
        edges.test(promise + ": NoSuch ahead of Argument, of nothing", call + " 4 -1 = !NoSuch");
    }

    private static void placeOf(Edges edges) {
        String twice = "put 0 0 9 9; put 0 1 1 2; put 0 2 3 4; put 0 3 1 2; put 0 4 9 9;";
        edges.test("16 placeOf: the first one that is alike", twice + "placeOf 0 1 2 false = 1");
        edges.test("16 placeOf: the last one that is alike", twice + "placeOf 0 1 2 true = 3");
        edges.test("16 placeOf: at the first place and at the last one", twice + "placeOf 0 9 9 false = 0; placeOf 0 9 9 true = 4");
        edges.test("16 placeOf: the only one", twice + "placeOf 0 3 4 false = 2; placeOf 0 3 4 true = 2");
        edges.test("16 placeOf: of a part, from its first place on", twice + "part 4 0 2 5; placeOf 4 1 2 false = 1;"
                + "placeOf 4 9 9 true = 2; placeOf 4 3 4 true = 0");
        edges.test("16 placeOf: none in a part, but ahead of it and behind", twice + "part 4 0 1 4; placeOf 4 9 9 false = -1;"
                + "placeOf 4 9 9 true = -1");
        edges.test("16 placeOf: copies", "copies 4 24 1 1; placeOf 4 1 1 false = 0; placeOf 4 1 1 true = 23; placeOf 4 1 2 true = -1");
        edges.test("16 placeOf: no copies", "copies 4 0 1 1; placeOf 4 1 1 false = -1; placeOf 4 1 1 true = -1");
        edges.test("16 placeOf: one alone, and none of things", Edges.KINDS + "placeOf 7 5 1 true = 0; placeOf 8 0 0 true = -1");
        edges.test("16 placeOf: of an empty list", "placeOf 0 0 0 false = -1; placeOf 0 0 0 true = -1");
        edges.test("16 placeOf: another mark", twice + "placeOf 0 1 3 false = -1; placeOf 0 1 3 true = -1");
        edges.test("16 placeOf: another key", twice + "placeOf 0 2 2 false = -1; placeOf 0 2 2 true = -1");
        edges.test("16 placeOf: another one with the same hash", "put 0 0 1 0; placeOf 0 0 31 false = -1");
        edges.test("16 placeOf: the least and the greatest key and mark", "put 0 0 -999 0; put 0 1 999 99;"
                + "placeOf 0 -999 0 false = 0; placeOf 0 999 99 true = 1");
        edges.test("16 placeOf: a key or mark out of range is that of none", twice + "placeOf 0 1000 2 false = -1;"
                + "placeOf 0 -1000 2 true = -1; placeOf 0 1 100 false = -1; placeOf 0 1 -1 true = -1");
        edges.each("16 placeOf: no such slot", Edges.NO_SLOTS, "placeOf # 1 1 false = !Index");
        edges.each("16 placeOf: it holds no list, slot", Edges.NO_LISTS, Edges.KINDS + "placeOf # 4 1 true = !NoSuch");
        edges.test("16 placeOf: it holds nothing", "placeOf 4 1 1 false = !NoSuch");
    }

    private static void put(Edges edges) {
        edges.test("17 put: into an empty list", "put 0 0 5 1 = 1; things 0 = 5/1; size 1 = 0");
        edges.test("17 put: into list 1", "put 1 0 5 1 = 1; things 1 = 5/1; size 0 = 0");
        edges.test("17 put: at the first place", Edges.THREE + "put 0 0 9 9 = 4; things 0 = 9/9 5/1 3/2 8/0");
        edges.test("17 put: at a place between", Edges.THREE + "put 0 1 9 9 = 4; things 0 = 5/1 9/9 3/2 8/0");
        edges.test("17 put: at the last place", Edges.THREE + "put 0 2 9 9 = 4; things 0 = 5/1 3/2 9/9 8/0");
        edges.test("17 put: at the place behind the last one", Edges.THREE + "put 0 3 9 9 = 4; things 0 = 5/1 3/2 8/0 9/9");
        edges.test("17 put: at the first place of a part", Edges.KINDS + "put 4 0 9 9 = 3; things 0 = 5/1 9/9 3/2 8/0;"
                + "things 4 = 9/9 3/2 8/0");
        edges.test("17 put: behind the last place of a part", Edges.THREE + "part 4 0 0 2; put 4 2 9 9 = 3;"
                + "things 0 = 5/1 3/2 9/9 8/0; things 4 = 5/1 3/2 9/9");
        edges.test("17 put: into an empty part", Edges.THREE + "part 4 0 1 1; put 4 0 9 9 = 1; things 0 = 5/1 9/9 3/2 8/0;"
                + "things 4 = 9/9");
        edges.test("17 put: returns how many a part has, not its list", Edges.FULL + "take 0 0; part 4 0 3 4; put 4 0 1 1 = 2");
        edges.each("17 put: the key", "-999 -1 0 999", "put 0 0 # 1 = 1; things 0 = #/1");
        edges.each("17 put: the mark", "0 1 99", "put 0 0 1 # = 1; things 0 = 1/#");
        edges.test("17 put: the 24th thing", Edges.FULL + "take 0 0; put 0 23 1 1 = 24; keyAt 0 23 = 1");
        edges.test("17 put: the 24th thing, through a part", Edges.FULL + "take 0 0; part 4 0 0 1; put 4 0 1 1 = 2; size 0 = 24");
        edges.test("17 put: a full list leaves room in the other one", Edges.FULL + "put 1 0 1 1 = 1");
    }

    private static void putRefused(Edges edges) {
        edges.each("17 put: no such slot", Edges.NO_SLOTS, "put # 0 1 1 = !Index");
        edges.each("17 put: it holds no list, slot", Edges.NO_LISTS, Edges.KINDS + "put # 0 1 1 = !NoSuch");
        edges.test("17 put: it holds nothing", "put 4 0 1 1 = !NoSuch");
        edges.each("17 put: it cannot be changed, slot", Edges.SHUT_LISTS, Edges.KINDS + "put # 0 1 1 = !Shut");
        edges.test("17 put: it cannot be changed, a fixed part", Edges.KINDS + "fixed 11 4; put 11 0 1 1 = !Shut");
        edges.each("17 put: no such place", "-1 4 " + FAR, Edges.THREE + "put 0 # 1 1 = !Argument");
        edges.test("17 put: no place 1 of an empty list", "put 0 1 1 1 = !Argument");
        edges.each("17 put: no such place of a part", "-1 3 " + FAR, Edges.FULL + "take 0 0; part 4 0 1 3; put 4 # 1 1 = !Argument");
        edges.each("17 put: the key is out of range", "-1000 1000 " + FAR, "put 0 0 # 1 = !Argument");
        edges.each("17 put: the mark is out of range", "-1 100 " + FAR, "put 0 0 1 # = !Argument");
        edges.each("17 put: the list has 24, at place", "0 12 24", Edges.FULL + "put 0 # 1 1 = !State");
        edges.test("17 put: list 1 has 24", Edges.FULL + "putAll 1 0 0; put 1 0 1 1 = !State");
        edges.each("17 put: the list at the bottom has 24, through a part", "4 5", FULL_PARTS + "put # 0 1 1 = !State");
        edges.test("17 put: Index ahead of Argument", "put 12 -1 1000 100 = !Index");
        edges.each("17 put: NoSuch ahead of Argument", Edges.NO_LISTS, Edges.KINDS + "put # -1 1000 100 = !NoSuch");
        edges.test("17 put: NoSuch ahead of Argument, of nothing", "put 4 -1 1 1 = !NoSuch");
        edges.each("17 put: Shut ahead of Argument, the place", Edges.SHUT_LISTS, Edges.KINDS + "put # -1 1 1 = !Shut");
        edges.each("17 put: Shut ahead of Argument, the key", Edges.SHUT_LISTS, Edges.KINDS + "put # 0 1000 1 = !Shut");
        edges.each("17 put: Shut ahead of Argument, the mark", Edges.SHUT_LISTS, Edges.KINDS + "put # 0 1 -1 = !Shut");
        edges.each("17 put: Shut ahead of State", "6 7", FULL_PARTS + "put # 0 1 1 = !Shut");
        edges.test("17 put: Shut ahead of State, of 24 copies", "copies 4 24 1 1; put 4 0 1 1 = !Shut");
        edges.test("17 put: Argument ahead of State, the place", Edges.FULL + "put 0 25 1 1 = !Argument; put 0 -1 1 1 = !Argument");
        edges.test("17 put: Argument ahead of State, the key", Edges.FULL + "put 0 0 1000 1 = !Argument");
        edges.test("17 put: Argument ahead of State, the mark", Edges.FULL + "put 0 0 1 100 = !Argument");
        edges.test("17 put: Argument ahead of State, through a part", FULL_PARTS + "put 4 3 1 1 = !Argument");
    }

    private static void set(Edges edges) {
        edges.test("18 set: at the first place", Edges.THREE + "set 0 0 9 9 = 156; things 0 = 9/9 3/2 8/0");
        edges.test("18 set: at the last place", Edges.THREE + "set 0 2 9 9 = 248; things 0 = 5/1 3/2 9/9");
        edges.test("18 set: at the first place of a part", Edges.KINDS + "set 4 0 9 9 = 95; things 0 = 5/1 9/9 8/0");
        edges.test("18 set: at the last place of a part", Edges.KINDS + "set 4 1 9 9 = 248; things 0 = 5/1 3/2 9/9");
        edges.test("18 set: one alike", Edges.THREE + "set 0 1 3 2 = 95; things 0 = 5/1 3/2 8/0");
        edges.test("18 set: in a full list", Edges.FULL + "set 0 23 1 2 = 224; size 0 = 24; keyAt 0 23 = 1");
        edges.each("18 set: the key", "-999 -1 0 999", Edges.THREE + "set 0 0 # 1 = 156; keyAt 0 0 = #");
        edges.each("18 set: the mark", "0 1 99", Edges.THREE + "set 0 0 5 # = 156; markAt 0 0 = #");
        edges.test("18 set: the hash of that which was there, below 0", "put 0 0 -999 0; set 0 0 1 1 = -30969");
    }

    private static void setRefused(Edges edges) {
        edges.each("18 set: no such slot", Edges.NO_SLOTS, "set # 0 1 1 = !Index");
        edges.each("18 set: it holds no list, slot", Edges.NO_LISTS, Edges.KINDS + "set # 0 1 1 = !NoSuch");
        edges.test("18 set: it holds nothing", "set 4 0 1 1 = !NoSuch");
        edges.each("18 set: it cannot be changed, slot", "5 6 7", Edges.KINDS + "set # 0 1 1 = !Shut");
        edges.test("18 set: it cannot be changed, one alike", Edges.KINDS + "set 5 0 5 1 = !Shut; set 6 0 4 1 = !Shut; set 7 0 5 1 = !Shut");
        edges.each("18 set: no such place", "-1 3 " + FAR, Edges.THREE + "set 0 # 1 1 = !Argument");
        edges.test("18 set: no place 0 of an empty list", "set 0 0 1 1 = !Argument");
        edges.each("18 set: no such place of a part", "-1 2 " + FAR, Edges.THREE + "part 4 0 0 2; set 4 # 1 1 = !Argument");
        edges.test("18 set: no place ahead of a part", Edges.KINDS + "set 4 -1 1 1 = !Argument");
        edges.test("18 set: no place 24 of a full list", Edges.FULL + "set 0 24 1 1 = !Argument");
        edges.each("18 set: the key is out of range", "-1000 1000 " + FAR, Edges.THREE + "set 0 0 # 1 = !Argument");
        edges.each("18 set: the mark is out of range", "-1 100 " + FAR, Edges.THREE + "set 0 0 1 # = !Argument");
        edges.test("18 set: Index ahead of Argument", "set 12 -1 1000 100 = !Index");
        edges.each("18 set: NoSuch ahead of Argument", Edges.NO_LISTS, Edges.KINDS + "set # -1 1 1 = !NoSuch");
        edges.test("18 set: NoSuch ahead of Argument, of nothing", "set 4 -1 1 1 = !NoSuch");
        edges.each("18 set: Shut ahead of Argument, the place", Edges.SHUT_LISTS, Edges.KINDS + "set # 24 1 1 = !Shut");
        edges.each("18 set: Shut ahead of Argument, the key", Edges.SHUT_LISTS, Edges.KINDS + "set # 0 1000 1 = !Shut");
        edges.each("18 set: Shut ahead of Argument, the mark", Edges.SHUT_LISTS, Edges.KINDS + "set # 0 1 -1 = !Shut");
    }

    private static void take(Edges edges) {
        edges.test("19 take: at the first place", Edges.THREE + "take 0 0 = 156; things 0 = 3/2 8/0");
        edges.test("19 take: at a place between", Edges.THREE + "take 0 1 = 95; things 0 = 5/1 8/0");
        edges.test("19 take: at the last place", Edges.THREE + "take 0 2 = 248; things 0 = 5/1 3/2");
        edges.test("19 take: at the first place of a part", Edges.KINDS + "take 4 0 = 95; things 0 = 5/1 8/0; things 4 = 8/0");
        edges.test("19 take: at the last place of a part", Edges.THREE + "part 4 0 0 2; take 4 1 = 95; things 0 = 5/1 8/0; things 4 = 5/1");
        edges.test("19 take: the only one", "put 1 0 -9 3; take 1 0 = -276; size 1 = 0");
        edges.test("19 take: of a full list", Edges.FULL + "take 0 23 = 224; size 0 = 23");
        edges.each("19 take: no such slot", Edges.NO_SLOTS, "take # 0 = !Index");
        edges.each("19 take: it holds no list, slot", Edges.NO_LISTS, Edges.KINDS + "take # 0 = !NoSuch");
        edges.test("19 take: it holds nothing", "take 4 0 = !NoSuch");
        edges.each("19 take: it cannot be changed, slot", "5 6 7", Edges.KINDS + "take # 0 = !Shut");
        edges.each("19 take: no such place", "-1 3 " + FAR, Edges.THREE + "take 0 # = !Argument");
        edges.test("19 take: no place 0 of an empty list", "take 0 0 = !Argument");
        edges.each("19 take: no such place of a part", "-1 2 " + FAR, Edges.THREE + "part 4 0 0 2; take 4 # = !Argument");
        edges.test("19 take: no place ahead of a part", Edges.KINDS + "take 4 -1 = !Argument");
        edges.test("19 take: no place 24 of a full list", Edges.FULL + "take 0 24 = !Argument");
        edges.test("19 take: Index ahead of Argument", "take 12 -1 = !Index");
        edges.each("19 take: NoSuch ahead of Argument", Edges.NO_LISTS, Edges.KINDS + "take # -1 = !NoSuch");
        edges.test("19 take: NoSuch ahead of Argument, of nothing", "take 4 -1 = !NoSuch");
        edges.each("19 take: Shut ahead of Argument", Edges.SHUT_LISTS, Edges.KINDS + "take # -1 = !Shut; take # 24 = !Shut");
        edges.each("19 take: Shut ahead of Argument, without things", Edges.SHUT_HOLLOW_LISTS, Edges.HOLLOW + "take # 0 = !Shut");
    }

    private static void drop(Edges edges) {
        String twice = "put 0 0 1 2; put 0 1 3 4; put 0 2 1 2; put 0 3 5 6;";
        edges.test("20 drop: the first one that is alike", twice + "drop 0 1 2 = true; things 0 = 3/4 1/2 5/6");
        edges.test("20 drop: one at the last place", twice + "drop 0 5 6 = true; things 0 = 1/2 3/4 1/2");
        edges.test("20 drop: the only one", "put 1 0 1 2; drop 1 1 2 = true; size 1 = 0");
        edges.test("20 drop: there was none", twice + "drop 0 7 7 = false; things 0 = 1/2 3/4 1/2 5/6");
        edges.test("20 drop: of an empty list", "drop 0 0 0 = false");
        edges.test("20 drop: another mark", twice + "drop 0 1 3 = false; size 0 = 4");
        edges.test("20 drop: another key", twice + "drop 0 2 2 = false; size 0 = 4");
        edges.test("20 drop: another one with the same hash", "put 0 0 1 0; drop 0 0 31 = false; size 0 = 1");
        edges.test("20 drop: a key or mark out of range is that of none", twice + "drop 0 1000 2 = false; drop 0 -1000 2 = false;"
                + "drop 0 1 100 = false; drop 0 1 -1 = false");
        edges.test("20 drop: of a part, its first one, not one ahead of it", twice + "part 4 0 1 4; drop 4 1 2 = true;"
                + "things 0 = 1/2 3/4 5/6; things 4 = 3/4 5/6");
        edges.test("20 drop: none in a part, but ahead of it and behind", twice + "part 4 0 1 2; drop 4 1 2 = false; drop 4 5 6 = false");
        edges.test("20 drop: of values, with its number", "enter 2 9 4 1; enter 2 3 6 2; values 4 2; drop 4 4 1 = true; numbers 2 = 3;"
                + "hashes 4 = 188");
        edges.test("20 drop: of rising values, the last one", "enter 3 9 4 1; enter 3 3 6 2; values 4 3; drop 4 4 1 = true; numbers 3 = 3");
        edges.test("20 drop: of values, there was none", "enter 2 9 4 1; values 4 2; drop 4 4 2 = false; drop 4 5 1 = false; size 2 = 1");
        edges.test("20 drop: of no values", "values 4 2; drop 4 0 0 = false");
        edges.test("20 drop: of values with the same key only", "enter 2 9 4 1; enter 2 3 4 2; values 4 2; drop 4 4 2 = true; numbers 2 = 9");
        edges.test("20 drop: of values with the same mark only", "enter 2 9 4 1; enter 2 3 5 1; values 4 2; drop 4 5 1 = true; numbers 2 = 9");
        edges.test("20 drop: of values with the same hash only", "enter 2 9 1 0; enter 2 3 0 31; values 4 2; drop 4 0 31 = true; numbers 2 = 9");
        edges.test("20 drop: a list may have two alike", "put 0 0 1 1; put 0 1 1 1; drop 0 1 1 = true; things 0 = 1/1");
    }

    private static void dropRefused(Edges edges) {
        String twins = "enter 2 9 4 1; enter 2 5 7 7; enter 2 3 4 1; values 4 2; fixed 5 2; values 6 5;";
        edges.each("20 drop: no such slot", Edges.NO_SLOTS, "drop # 1 1 = !Index");
        edges.each("20 drop: it holds no row, slot", Edges.NO_ROWS, Edges.KINDS + "drop # 4 1 = !NoSuch");
        edges.test("20 drop: it holds nothing", "drop 4 1 1 = !NoSuch");
        edges.test("20 drop: it cannot be changed", Edges.KINDS + "drop 5 5 1 = !Shut; drop 6 4 1 = !Shut; drop 7 5 1 = !Shut");
        edges.test("20 drop: it cannot be changed, values of a fixed map", Edges.KINDS + "values 4 11; drop 4 4 1 = !Shut");
        edges.each("20 drop: it cannot be changed, there is none, slot", Edges.SHUT_LISTS, Edges.KINDS + "drop # 7 7 = !Shut");
        edges.each("20 drop: it cannot be changed, without things, slot", "5 6 7 8 11", Edges.HOLLOW + "drop # 7 7 = !Shut");
        edges.test("20 drop: two of the values are alike", twins + "drop 4 4 1 = !State");
        edges.test("20 drop: two of the values are alike, another one is sought", twins + "drop 4 7 7 = !State");
        edges.test("20 drop: two of the values are alike, none is sought", twins + "drop 4 8 8 = !State");
        edges.test("20 drop: two of rising values are alike, the last ones", "enter 3 1 7 7; enter 3 2 4 1; enter 3 3 4 1; values 4 3;"
                + "drop 4 7 7 = !State");
        edges.test("20 drop: not any more, as one of them went", twins + "strike 2 9; drop 4 4 1 = true");
        edges.test("20 drop: Shut ahead of State", twins + "drop 6 4 1 = !Shut");
    }

    private static void wipe(Edges edges) {
        edges.test("21 wipe: a list", Edges.THREE + "wipe 0 = 3; size 0 = 0");
        edges.test("21 wipe: a full list", Edges.FULL + "wipe 0 = 24; size 0 = 0");
        edges.test("21 wipe: the other list stays", Edges.THREE + "put 1 0 1 1; wipe 1 = 1; size 0 = 3");
        edges.test("21 wipe: an empty list", "wipe 0 = 0; wipe 1 = 0");
        edges.test("21 wipe: a part", Edges.THREE + "put 0 3 9 9; part 4 0 1 3; wipe 4 = 2; things 0 = 5/1 9/9; size 4 = 0");
        edges.test("21 wipe: an empty part", Edges.THREE + "part 4 0 1 1; wipe 4 = 0; size 0 = 3");
        edges.each("21 wipe: a map", "2 3", "enter # 9 1 1; enter # 8 1 1; wipe # = 2; size # = 0; hasNumber # 9 = false");
        edges.each("21 wipe: a full map", "2 3", Edges.numbers(2, 1, 24) + Edges.numbers(3, 1, 24) + "wipe # = 24; size # = 0");
        edges.each("21 wipe: an empty map", "2 3", "wipe # = 0");
        edges.test("21 wipe: of keys, all numbers go", Edges.KINDS + "wipe 9 = 2; size 2 = 0; size 10 = 0; size 11 = 0");
        edges.test("21 wipe: of values, all numbers go", Edges.KINDS + "wipe 10 = 2; size 2 = 0; size 9 = 0; size 11 = 0");
        edges.test("21 wipe: of values, two alike", "enter 2 9 4 1; enter 2 3 4 1; values 4 2; wipe 4 = 2; size 2 = 0");
        edges.test("21 wipe: of no keys and no values", "keys 4 2; values 5 3; wipe 4 = 0; wipe 5 = 0");
        edges.each("21 wipe: no such slot", Edges.NO_SLOTS, "wipe # = !Index");
        edges.each("21 wipe: it holds nothing", "4 11", "wipe # = !NoSuch");
        edges.each("21 wipe: it cannot be changed, slot", "5 6 7 8 11", Edges.KINDS + "wipe # = !Shut");
        edges.test("21 wipe: it cannot be changed, keys and values of a fixed map", Edges.KINDS
                + "keys 4 11; values 5 11; wipe 4 = !Shut; wipe 5 = !Shut");
        edges.each("21 wipe: it cannot be changed, nor would be, slot", "5 6 7 8 9 10 11", Edges.HOLLOW + "wipe # = !Shut");
    }
}

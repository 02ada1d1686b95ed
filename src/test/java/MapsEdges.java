/** Sentences of promises 37 to 42: maps and keys. */
final class MapsEdges {
    private static final String FAR = "-2147483648 2147483647";
    private static final String FULL_MAPS = Edges.numbers(2, 1, 24) + Edges.numbers(3, 1, 24);

    private MapsEdges() {
    }

    static void all(Edges edges) {
        enter(edges);
        enterRefused(edges);
        strike(edges);
        hasNumber(edges);
        thingOf(edges);
        numberAt(edges);
        keepKeys(edges);
        keepKeysRefused(edges);
    }

    private static void enter(Edges edges) {
        edges.each("37 enter: it had none", "2 3", "enter # 9 4 1 = false; size # = 1; thingOf # 9 = 125");
        edges.each("37 enter: it had one, and has another one then", "2 3", "enter # 9 4 1; enter # 9 6 2 = true; size # = 1; thingOf # 9 = 188");
        edges.each("37 enter: it had one that is alike", "2 3", "enter # 9 4 1; enter # 9 4 1 = true; size # = 1");
        edges.each("37 enter: it had one that was taken away", "2 3", "enter # 9 4 1; strike # 9; enter # 9 4 1 = false");
        edges.test("37 enter: in 2 in the order in which numbers came", "enter 2 5 1 1; enter 2 9 1 1; enter 2 -3 1 1; enter 2 7 1 1;"
                + "numbers 2 = 5 9 -3 7");
        edges.test("37 enter: in 2 a number that is there stays where it is", "enter 2 5 1 1; enter 2 9 1 1; enter 2 -3 1 1;"
                + "enter 2 5 2 2 = true; enter 2 9 2 2 = true; numbers 2 = 5 9 -3");
        edges.test("37 enter: in 2 a number that went comes behind", "enter 2 5 1 1; enter 2 9 1 1; strike 2 5; enter 2 5 1 1; numbers 2 = 9 5");
        edges.test("37 enter: in 3 rising", "enter 3 5 1 1; enter 3 9 1 1; enter 3 -3 1 1; enter 3 7 1 1; numbers 3 = -3 5 7 9");
        edges.test("37 enter: in 3 rising, with the farthest numbers", "enter 3 0 1 1; enter 3 2147483647 1 1; enter 3 -2147483648 1 1;"
                + "enter 3 1 1 1; numbers 3 = -2147483648 0 1 2147483647");
        edges.test("37 enter: in 3 what numbers have moves with them", "enter 3 5 1 1; enter 3 9 2 2; enter 3 -3 3 3; hashes 3 = -3 96 5 32 9 64");
        edges.each("37 enter: any number", "-1 0 " + FAR, "enter 2 # 1 1 = false; hasNumber 2 # = true; enter 3 # 1 1 = false; numbers 3 = #");
        edges.each("37 enter: the key", "-999 -1 0 999", "enter 2 5 # 0 = false; enter 3 5 # 0; values 4 2; values 5 3; end 4 true = #; end 5 true = #");
        edges.test("37 enter: the mark", "enter 2 5 0 0 = false; thingOf 2 5 = 0; enter 2 6 0 99 = false; thingOf 2 6 = 99");
        edges.each("37 enter: the 24th number", "2 3", FULL_MAPS + "strike # 7; enter # 30 1 1 = false; size # = 24");
        edges.each("37 enter: a number that is there, of 24", "2 3", FULL_MAPS + "enter # 1 5 5 = true; enter # 24 6 6 = true; size # = 24;"
                + "thingOf # 24 = 192");
        edges.test("37 enter: a full map leaves room in the other one", Edges.numbers(2, 1, 24) + "enter 3 25 1 1 = false");
    }

    private static void enterRefused(Edges edges) {
        edges.each("37 enter: no such slot", Edges.NO_SLOTS, "enter # 1 1 1 = !Index");
        edges.each("37 enter: it holds no map, slot", Edges.NO_MAPS, Edges.KINDS + "enter # 9 4 1 = !NoSuch");
        edges.test("37 enter: it holds nothing", "enter 4 1 1 1 = !NoSuch");
        edges.test("37 enter: it cannot be changed", Edges.KINDS + "enter 11 1 1 1 = !Shut; enter 11 9 1 1 = !Shut");
        edges.test("37 enter: it cannot be changed, nor would be", Edges.KINDS + "enter 11 9 4 1 = !Shut");
        edges.each("37 enter: the key is out of range", "-1000 1000 " + FAR, "enter 2 1 # 1 = !Argument; enter 3 1 # 1 = !Argument");
        edges.each("37 enter: the mark is out of range", "-1 100 " + FAR, "enter 2 1 1 # = !Argument; enter 3 1 1 # = !Argument");
        edges.test("37 enter: the key or mark is out of range, of a number that is there", Edges.KINDS + "enter 2 9 1000 1 = !Argument;"
                + "enter 2 9 1 100 = !Argument");
        edges.each("37 enter: it had none, and there are 24", "0 25 " + FAR, FULL_MAPS + "enter 2 # 1 1 = !State; enter 3 # 1 1 = !State");
        edges.test("37 enter: Index ahead of Argument", "enter 12 1 1000 1 = !Index; enter -1 1 1 100 = !Index");
        edges.each("37 enter: NoSuch ahead of Argument", Edges.NO_MAPS, Edges.KINDS + "enter # 1 1000 1 = !NoSuch; enter # 1 1 100 = !NoSuch");
        edges.test("37 enter: NoSuch ahead of Argument, of nothing", "enter 4 1 1000 1 = !NoSuch");
        edges.test("37 enter: NoSuch ahead of Shut and State, keys of a full map", FULL_MAPS + "keys 4 2; enter 4 25 1 1 = !NoSuch;"
                + "fixed 5 2; keys 6 5; enter 6 25 1 1 = !NoSuch");
        edges.test("37 enter: Shut ahead of Argument", Edges.KINDS + "enter 11 1 1000 1 = !Shut; enter 11 9 1 -1 = !Shut");
        edges.test("37 enter: Shut ahead of State", FULL_MAPS + "fixed 4 2; fixed 5 3; enter 4 25 1 1 = !Shut; enter 5 25 1 1 = !Shut");
        edges.test("37 enter: Argument ahead of State", FULL_MAPS + "enter 2 25 1000 1 = !Argument; enter 3 25 1 100 = !Argument");
    }

    private static void strike(Edges edges) {
        edges.each("38 strike: it was there, the first one", "2 3", "enter # 1 1 1; enter # 2 2 2; enter # 3 3 3; strike # 1 = true;"
                + "hashes # = 2 64 3 96");
        edges.each("38 strike: it was there, the last one", "2 3", "enter # 1 1 1; enter # 2 2 2; enter # 3 3 3; strike # 3 = true;"
                + "hashes # = 1 32 2 64");
        edges.each("38 strike: it was not there", "2 3", "enter # 1 1 1; strike # 2 = false; strike # 0 = false; strike # 32 = false; size # = 1");
        edges.each("38 strike: not any more", "2 3", "enter # 1 1 1; strike # 1 = true; strike # 1 = false; size # = 0");
        edges.each("38 strike: of an empty map", "2 3", "strike # 0 = false");
        edges.each("38 strike: the farthest numbers", FAR, "enter 2 # 1 1; enter 3 # 1 1; strike 2 # = true; strike 3 # = true; strike 3 # = false");
        edges.test("38 strike: of keys, with what it has", Edges.KINDS + "strike 9 9 = true; hashes 2 = 3 188; hashes 10 = 188; hashes 11 = 3 188");
        edges.test("38 strike: of keys, it was not there", Edges.KINDS + "strike 9 4 = false; size 2 = 2");
        edges.test("38 strike: of no keys", "keys 4 2; strike 4 0 = false");
        edges.test("38 strike: of a full map", FULL_MAPS + "strike 2 24 = true; strike 3 1 = true; size 2 = 23; size 3 = 23");
        edges.each("38 strike: no such slot", Edges.NO_SLOTS, "strike # 1 = !Index");
        edges.each("38 strike: it holds neither map nor keys, slot", Edges.NO_NUMBERS, Edges.KINDS + "strike # 9 = !NoSuch");
        edges.test("38 strike: it holds nothing", "strike 4 1 = !NoSuch");
        edges.test("38 strike: it cannot be changed", Edges.KINDS + "keys 4 11; strike 11 9 = !Shut; strike 4 9 = !Shut");
        edges.test("38 strike: it cannot be changed, nor would be", Edges.KINDS + "keys 4 11; strike 11 8 = !Shut; strike 4 8 = !Shut");
        edges.test("38 strike: it cannot be changed, without numbers", Edges.HOLLOW + "strike 9 1 = !Shut; strike 10 1 = !Shut");
    }

    private static void hasNumber(Edges edges) {
        edges.each("39 hasNumber: it is there, slot", "2 9 11", Edges.KINDS + "hasNumber # 9 = true; hasNumber # 3 = true");
        edges.each("39 hasNumber: it is not, slot", "2 9 11 3", Edges.KINDS + "hasNumber # 4 = false; hasNumber # 0 = false; hasNumber # 125 = false");
        edges.test("39 hasNumber: not any more", Edges.KINDS + "strike 2 9; hasNumber 2 9 = false; hasNumber 9 9 = false; hasNumber 11 9 = false");
        edges.test("39 hasNumber: of an empty map, its keys and a fixed one", Edges.HOLLOW + "hasNumber 2 0 = false; hasNumber 9 0 = false;"
                + "hasNumber 10 0 = false");
        edges.each("39 hasNumber: the farthest numbers", FAR, "hasNumber 3 # = false; enter 3 # 1 1; hasNumber 3 # = true");
        edges.test("39 hasNumber: the first and the last of 24", FULL_MAPS + "hasNumber 2 1 = true; hasNumber 2 24 = true; hasNumber 2 25 = false");
        edges.each("39 hasNumber: no such slot", Edges.NO_SLOTS, "hasNumber # 1 = !Index");
        edges.each("39 hasNumber: it holds neither map nor keys, slot", Edges.NO_NUMBERS, Edges.KINDS + "hasNumber # 9 = !NoSuch");
        edges.test("39 hasNumber: it holds nothing", "hasNumber 4 1 = !NoSuch");
    }

    private static void thingOf(Edges edges) {
        edges.each("40 thingOf: the hash of its thing, slot", "2 11", Edges.KINDS + "thingOf # 9 = 125; thingOf # 3 = 188");
        edges.test("40 thingOf: a hash below 0", "enter 3 5 -999 0; thingOf 3 5 = -30969");
        edges.each("40 thingOf: no such slot", Edges.NO_SLOTS, "thingOf # 1 = !Index");
        edges.each("40 thingOf: it holds no map, slot", Edges.NO_MAPS, Edges.KINDS + "thingOf # 9 = !NoSuch");
        edges.test("40 thingOf: it holds nothing", "thingOf 4 1 = !NoSuch");
        edges.each("40 thingOf: it has none, slot", "2 11 3", Edges.KINDS + "thingOf # 4 = !Argument; thingOf # 0 = !Argument");
        edges.test("40 thingOf: it has none any more", Edges.KINDS + "strike 2 9; thingOf 2 9 = !Argument; thingOf 11 9 = !Argument");
        edges.each("40 thingOf: the farthest numbers have none", FAR, Edges.KINDS + "thingOf 2 # = !Argument; enter 2 # 1 1; thingOf 2 # = 32");
        edges.each("40 thingOf: NoSuch ahead of Argument", Edges.NO_MAPS, Edges.KINDS + "thingOf # 77 = !NoSuch");
    }

    private static void numberAt(Edges edges) {
        edges.each("41 numberAt: as the numbers came, slot", "2 9 11", Edges.KINDS + "numberAt # 0 = 9; numberAt # 1 = 3");
        edges.test("41 numberAt: rising", "enter 3 9 1 1; enter 3 3 1 1; keys 4 3; fixed 5 3; numberAt 3 0 = 3; numberAt 3 1 = 9;"
                + "numberAt 4 0 = 3; numberAt 5 1 = 9");
        edges.test("41 numberAt: the last one of 24", FULL_MAPS + "numberAt 2 23 = 24; numberAt 3 0 = 1");
        edges.each("41 numberAt: no such slot", Edges.NO_SLOTS, "numberAt # 0 = !Index");
        edges.each("41 numberAt: it holds neither map nor keys, slot", Edges.NO_NUMBERS, Edges.KINDS + "numberAt # 0 = !NoSuch");
        edges.test("41 numberAt: it holds nothing", "numberAt 4 0 = !NoSuch");
        edges.each("41 numberAt: no such place", "-1 2 24 " + FAR, Edges.KINDS + "numberAt 2 # = !Argument; numberAt 9 # = !Argument;"
                + "numberAt 11 # = !Argument");
        edges.test("41 numberAt: no place 0 of an empty map and no keys", Edges.HOLLOW + "numberAt 2 0 = !Argument; numberAt 9 0 = !Argument;"
                + "numberAt 10 0 = !Argument");
        edges.test("41 numberAt: no place 24 of a full map", FULL_MAPS + "numberAt 2 24 = !Argument; numberAt 3 24 = !Argument");
        edges.test("41 numberAt: Index ahead of Argument", "numberAt 12 -1 = !Index; numberAt -1 24 = !Index");
        edges.each("41 numberAt: NoSuch ahead of Argument", Edges.NO_NUMBERS, Edges.KINDS + "numberAt # -1 = !NoSuch; numberAt # 24 = !NoSuch");
        edges.test("41 numberAt: NoSuch ahead of Argument, of nothing", "numberAt 4 -1 = !NoSuch");
    }

    private static void keepKeys(Edges edges) {
        String maps = "enter 2 9 1 1; enter 2 3 2 2; enter 2 5 3 3; enter 2 7 4 4; enter 3 3 0 0; enter 3 7 0 0; enter 3 8 0 0;"
                + "keys 4 2; keys 5 3; fixed 6 3; keys 7 6; keys 8 2;";
        edges.test("42 keepKeys: just those that are in other keys", maps + "keepKeys 4 5 true = 2; hashes 2 = 3 64 7 128; numbers 3 = 3 7 8");
        edges.test("42 keepKeys: or just these taken away", maps + "keepKeys 4 5 false = 2; hashes 2 = 9 32 5 96; numbers 3 = 3 7 8");
        edges.test("42 keepKeys: by keys of a fixed map", maps + "keepKeys 4 7 false = 2; numbers 2 = 9 5");
        edges.test("42 keepKeys: by themselves, as they are ahead, all stay", maps + "keepKeys 4 4 true = 0; size 2 = 4");
        edges.test("42 keepKeys: by themselves, as they are ahead, all go", maps + "keepKeys 4 4 false = 4; size 2 = 0");
        edges.test("42 keepKeys: by other ones of the same map, all go", maps + "keepKeys 4 8 false = 4; size 8 = 0");
        edges.test("42 keepKeys: by none, all go or stay", maps + "wipe 3; keepKeys 4 5 false = 0; keepKeys 4 5 true = 4; size 2 = 0");
        edges.test("42 keepKeys: of none", maps + "wipe 2; keepKeys 4 5 true = 0; keepKeys 4 5 false = 0");
        edges.test("42 keepKeys: of 24", FULL_MAPS + "keys 4 2; keys 5 3; strike 3 24; keepKeys 4 5 true = 1; keepKeys 4 5 false = 23");
    }

    private static void keepKeysRefused(Edges edges) {
        for (String isKept : new String[] {"true", "false"}) {
            edges.each("42 keepKeys: no such slot, " + isKept, Edges.NO_SLOTS, Edges.KINDS + "keepKeys # 9 " + isKept + " = !Index");
            edges.each("42 keepKeys: no such slot of the other ones, " + isKept, Edges.NO_SLOTS, Edges.KINDS
                    + "keepKeys 9 # " + isKept + " = !Index");
            edges.each("42 keepKeys: no keys, " + isKept, Edges.NO_KEYS, Edges.KINDS + "keepKeys # 9 " + isKept + " = !NoSuch");
            edges.each("42 keepKeys: no other keys, " + isKept, Edges.NO_KEYS, Edges.KINDS + "keepKeys 9 # " + isKept + " = !NoSuch");
            edges.test("42 keepKeys: nothing, " + isKept, "keys 5 2; keepKeys 4 5 " + isKept + " = !NoSuch");
            edges.test("42 keepKeys: by nothing, " + isKept, "keys 5 2; keepKeys 5 4 " + isKept + " = !NoSuch");
            edges.test("42 keepKeys: it cannot be changed, " + isKept, Edges.KINDS + "keys 4 11; keys 5 3; keepKeys 4 5 " + isKept
                    + " = !Shut; keepKeys 4 9 " + isKept + " = !Shut; keepKeys 4 4 " + isKept + " = !Shut");
            edges.test("42 keepKeys: it cannot be changed, without numbers, " + isKept, Edges.HOLLOW + "keepKeys 10 10 " + isKept + " = !Shut");
        }
        edges.test("42 keepKeys: Index, of the other ones, ahead of NoSuch", "keepKeys 4 12 true = !Index; keepKeys 2 -1 false = !Index");
        edges.test("42 keepKeys: Index ahead of NoSuch, of the other ones", "keepKeys 12 4 true = !Index; keepKeys -1 2 false = !Index");
        edges.test("42 keepKeys: Index, of the other ones, ahead of Shut", Edges.HOLLOW + "keepKeys 10 12 true = !Index");
        edges.test("42 keepKeys: NoSuch, of the other ones, ahead of Shut", Edges.HOLLOW + "keepKeys 10 2 true = !NoSuch; keepKeys 10 11 true = !NoSuch");
        edges.test("42 keepKeys: NoSuch, of nothing, ahead of Shut", "fixed 4 2; keys 4 4; keepKeys 4 5 true = !NoSuch");
    }
}

/** Sentences of the section "Terms", and of "What it is"; which parts a change lets go is in LetGoEdges. */
final class TermsEdges {
    /** 0: 1/1 to 6/6; 4 the things 2/2 to 5/5, 5 of these 3/3 and 4/4, 6 and 7 fixed ones of 4 and 5, 8 of the list. */
    private static final String NEST = "put 0 0 1 1; put 0 1 2 2; put 0 2 3 3; put 0 3 4 4; put 0 4 5 5; put 0 5 6 6;"
            + "put 1 0 7 7; put 1 1 8 8; part 4 0 1 5; part 5 4 1 3; fixed 6 4; fixed 7 5; fixed 8 0; alone 11 9 9;";

    private TermsEdges() {
    }

    static void all(Edges edges) {
        panes(edges);
        changesThroughParts(edges);
        changesBelowParts(edges);
        maps(edges);
        theorem(edges);
        alikeAndHashes(edges);
        limits(edges);
        lastCalls(edges);
        slots(edges);
        listsAndRows(edges);
        shut(edges);
        refused(edges);
    }

    private static void panes(Edges edges) {
        edges.test("term: a pane is the told stretch of a list", NEST + "things 4 = 2/2 3/3 4/4 5/5");
        edges.test("term: a pane is the told stretch of a part", NEST + "things 5 = 3/3 4/4; things 7 = 3/3 4/4");
        edges.test("term: keys and values are in their map's order", "enter 2 9 1 1; enter 2 3 2 2; enter 3 9 1 1; enter 3 3 2 2; keys 4 2; keys 5 3;"
                + "values 6 2; values 7 3; numbers 4 = 9 3; numbers 5 = 3 9; hashes 6 = 32 64; hashes 7 = 64 32");
        edges.test("term: keys and values of a fixed map are in its order", "enter 3 9 1 1; enter 3 3 2 2; fixed 4 3; keys 5 4; values 6 4;"
                + "numbers 4 = 3 9; numbers 5 = 3 9; hashes 6 = 64 32");
        StringBuilder deep = new StringBuilder(Edges.THREE);
        for (int depth = 0; depth < 480; depth++) {
            deep.append("part 4 ").append(depth == 0 ? 0 : 4).append(depth == 0 ? " 1 3;" : " 0 2;");
        }
        edges.test("term: at whatever depth", deep + "things 4 = 3/2 8/0");
        edges.test("term: at whatever depth, a change through it", deep + "put 4 1 9 9 = 3; things 0 = 5/1 3/2 9/9 8/0; kind 4 = p");
        edges.test("term: at whatever depth, a change of the list", deep + "take 0 0 = 156; kind 4 = -");
    }

    /** Each change through a part of a part: what all others tell, and what lies outside. */
    private static void changesThroughParts(Edges edges) {
        through(edges, "put ahead", "put 5 0 9 9", "9/9 3/3 4/4");
        through(edges, "put behind", "put 5 2 9 9", "3/3 4/4 9/9");
        through(edges, "set", "set 5 1 9 9", "3/3 9/9");
        through(edges, "take the first one", "take 5 0", "4/4");
        through(edges, "take the last one", "take 5 1", "3/3");
        through(edges, "drop", "drop 5 4 4", "3/3");
        through(edges, "wipe", "wipe 5", "");
        through(edges, "putAll ahead", "putAll 5 0 1", "7/7 8/8 3/3 4/4");
        through(edges, "putAll behind", "putAll 5 2 1", "3/3 4/4 7/7 8/8");
        through(edges, "keep", "part 10 0 3 6; keep 5 10 true", "4/4");
        through(edges, "keep away", "part 10 0 3 6; keep 5 10 false", "3/3");
        through(edges, "strip", "strip 5 3", "4/4");
        through(edges, "weave", "weave 5 4 9", "3/3 4/4 4/9");
        through(edges, "raise", "raise 5 3", "6/3 7/4");
        through(edges, "sort", "sort 5 K", "4/4 3/3");
        through(edges, "turn", "turn 5", "4/4 3/3");
        through(edges, "swap", "swap 5 0 1", "4/4 3/3");
        through(edges, "rotate", "rotate 5 1", "4/4 3/3");
        through(edges, "fill", "fill 5 9 9", "9/9 9/9");
    }

    private static void through(Edges edges, String what, String call, String told) {
        String middle = told.isEmpty() ? "" : told + " ";
        edges.test("term: a change through a part is told by all, " + what, NEST + call + "; things 5 = " + told + "; things 7 = " + told
                + "; things 4 = 2/2 " + middle + "5/5; things 6 = 2/2 " + middle + "5/5; things 0 = 1/1 2/2 " + middle
                + "5/5 6/6; things 8 = 1/1 2/2 " + middle + "5/5 6/6; things 1 = 7/7 8/8; things 11 = 9/9");
    }

    /** Each change of the list that lets no part go, and some more through the part around. */
    private static void changesBelowParts(Edges edges) {
        edges.test("term: a change of the list is told by parts, set", NEST + "set 0 2 9 9; things 4 = 2/2 9/9 4/4 5/5; things 5 = 9/9 4/4;"
                + "things 7 = 9/9 4/4; things 8 = 1/1 2/2 9/9 4/4 5/5 6/6");
        edges.test("term: a change of the list is told by parts, raise", NEST + "raise 0 1; things 5 = 4/3 5/4; things 6 = 3/2 4/3 5/4 6/5");
        edges.test("term: a change of the list is told by parts, turn", NEST + "turn 0; things 4 = 5/5 4/4 3/3 2/2; things 5 = 4/4 3/3");
        edges.test("term: a change of the list is told by parts, swap", NEST + "swap 0 0 3; things 5 = 3/3 1/1; things 6 = 2/2 3/3 1/1 5/5");
        edges.test("term: a change of the list is told by parts, rotate", NEST + "rotate 0 1; things 5 = 2/2 3/3; things 6 = 1/1 2/2 3/3 4/4");
        edges.test("term: a change of the list is told by parts, fill", NEST + "fill 0 9 9; things 7 = 9/9 9/9; things 4 = 9/9 9/9 9/9 9/9");
        edges.test("term: a change of a part is told by its part", NEST + "turn 4; things 5 = 4/4 3/3; things 0 = 1/1 5/5 4/4 3/3 2/2 6/6");
        edges.test("term: a change beside a part is not told by it", NEST + "set 0 0 9 9; set 0 5 9 9; things 4 = 2/2 3/3 4/4 5/5");
        edges.test("term: a change of the list is told by a fixed one", NEST + "put 0 0 9 9; take 0 6; things 8 = 9/9 1/1 2/2 3/3 4/4 5/5");
        edges.test("term: what came through a part is in it, taken or not", NEST + "put 5 2 9 9; put 4 5 8 8; things 4 = 2/2 3/3 4/4 9/9 5/5 8/8;"
                + "things 0 = 1/1 2/2 3/3 4/4 9/9 5/5 8/8 6/6; kind 5 = -");
        edges.test("term: parts around it are longer by just as much, more than once", NEST + "put 5 0 9 9; put 5 3 9 8; take 5 1; weave 5 9 7;"
                + "things 5 = 9/9 9/7 4/4 9/8 9/7; things 4 = 2/2 9/9 9/7 4/4 9/8 9/7 5/5; size 0 = 9");
    }

    private static void maps(Edges edges) {
        edges.test("term: a change of a map is told by keys, values and a fixed one", Edges.KINDS + "enter 2 7 1 1; numbers 9 = 9 3 7;"
                + "hashes 10 = 125 188 32; hashes 11 = 9 125 3 188 7 32");
        edges.test("term: a change of a map is told by keys and values of a fixed one", Edges.KINDS + "keys 4 11; values 5 11; strike 2 9;"
                + "numbers 4 = 3; hashes 5 = 188");
        edges.test("term: raise of a map is told by values", Edges.KINDS + "raise 2 1; hashes 10 = 156 219; hashes 11 = 9 156 3 219");
        edges.test("term: keys that are taken go with what they have, strike", Edges.KINDS + "strike 9 9; hashes 2 = 3 188; hashes 10 = 188");
        edges.test("term: keys that are taken go with what they have, strip", Edges.KINDS + "enter 2 4 1 1; strip 9 3; hashes 2 = 4 32; hashes 10 = 32");
        edges.test("term: keys that are taken go with what they have, keepKeys", Edges.KINDS + "enter 3 3 1 1; keys 4 3; keepKeys 9 4 true;"
                + "hashes 2 = 3 188; hashes 10 = 188");
        edges.test("term: things that go from values go with their keys, drop", Edges.KINDS + "drop 10 4 1; hashes 2 = 3 188; numbers 9 = 3");
        edges.test("term: things that go from values go with their keys, keep", Edges.KINDS + "keep 10 6 false; hashes 2 = 3 188; numbers 9 = 3");
        edges.test("term: things that go from values go with their keys, strip", Edges.KINDS + "strip 10 3; hashes 2 = 9 125; numbers 9 = 9");
        edges.test("term: a change of one map leaves the other one", Edges.KINDS + "enter 3 9 1 1; keys 4 3; wipe 9; hashes 3 = 9 32; numbers 4 = 9");
        edges.test("term: in 2 a number that is there stays where it is", "enter 2 9 1 1; enter 2 3 2 2; enter 2 9 5 5; hashes 2 = 9 160 3 64");
        edges.test("term: in 3 numbers rise", "enter 3 9 1 1; enter 3 3 2 2; enter 3 -9 5 5; hashes 3 = -9 160 3 64 9 32");
    }

    private static void theorem(Edges edges) {
        String some = "put 0 0 2 5; put 0 1 1 7; put 0 2 2 3; put 0 3 -4 5; put 0 4 1 1;";
        edges.test("term: sorting leaves the same things", some + "sort 0 m; often 0 2 5 = 1; often 0 1 7 = 1; often 0 2 3 = 1; often 0 -4 5 = 1;"
                + "often 0 1 1 = 1; size 0 = 5");
        edges.test("term: sorting, things alike in the order as they stood", some + "sort 0 m; sort 0 k; things 0 = -4/5 1/1 1/7 2/3 2/5");
        edges.test("term: turned twice, a list is what it was", some + "turn 0; turn 0; things 0 = 2/5 1/7 2/3 -4/5 1/1");
        edges.each("term: turned round by some places and by as many back, it is what it was", "0 1 2 3 4 5 6 100", some + "rotate 0 #; rotate 0 -#;"
                + "things 0 = 2/5 1/7 2/3 -4/5 1/1");
        edges.test("term: a search finds each key, and tells how many are less", some + "sort 0 k; search 0 -4 = 100; search 0 1 = 100;"
                + "search 0 2 = 100; search 0 -5 = -1; search 0 0 = -2; search 0 3 = -6");
        edges.test("term: lists that are the same have the same hash", some + "putAll 1 0 0; fixed 4 0; part 5 1 0 5; isSame 0 1 = true;"
                + "hash 0 = 91695924; hash 1 = 91695924; hash 4 = 91695924; hash 5 = 91695924");
        edges.test("term: maps that are the same have the same hash, whatever their order", "enter 2 9 4 1; enter 2 3 6 2; enter 3 3 6 2; enter 3 9 4 1;"
                + "isSame 2 3 = true; hash 2 = 307; hash 3 = 307");
        edges.test("term: keys that are the same have the same hash", "enter 2 9 4 1; enter 2 3 6 2; enter 3 3 1 1; enter 3 9 1 1; keys 4 2; keys 5 3;"
                + "isSame 4 5 = true; hash 4 = 12; hash 5 = 12");
    }

    private static void alikeAndHashes(Edges edges) {
        edges.test("term: things are alike if key and mark both are", "put 0 0 1 2; placeOf 0 1 2 false = 0; placeOf 0 1 3 false = -1;"
                + "placeOf 0 2 2 false = -1");
        edges.test("term: a thing's hash is 31 times its key, and its mark", "put 0 0 7 5; set 0 0 -3 4 = 222; set 0 0 0 9 = -89; take 0 0 = 9");
        edges.test("term: places are numbered from 0", Edges.THREE + "placeOf 0 5 1 false = 0; keyAt 0 0 = 5; keyAt 0 3 = !Argument");
    }

    private static void limits(Edges edges) {
        edges.each("term: 24 things are in a list", "0 1", "copies 4 24 1 1; putAll # 0 4 = 24; size # = 24");
        edges.each("term: at most 24 things are in a list", "0 1", "copies 4 24 1 1; putAll # 0 4; put # 24 1 1 = !State; putAll # 0 # = !State;"
                + "weave # 1 1 = !State");
        edges.each("term: 24 numbers are in a map", "2 3", Edges.numbers(2, 1, 24) + Edges.numbers(3, 1, 24) + "size # = 24; hasNumber # 24 = true");
        edges.each("term: at most 24 numbers are in a map", "2 3", Edges.numbers(2, 1, 24) + Edges.numbers(3, 1, 24) + "enter # 25 1 1 = !State");
        edges.test("term: a full list that got room is filled again", Edges.FULL + "take 0 0; put 0 0 1 1 = 24; put 0 0 1 1 = !State");
        edges.test("term: a full map that got room is filled again", Edges.numbers(3, 1, 24) + "strike 3 5; enter 3 25 1 1 = false;"
                + "enter 3 26 1 1 = !State");
    }

    /** An object is used for at most 512 calls: the last of these are answered as the first ones are. */
    private static void lastCalls(Edges edges) {
        edges.test("what it is: 512 calls, lists", "put 0 0 1 1; take 0 0;".repeat(255) + "put 0 0 5 1 = 1; keyAt 0 0 = 5");
        edges.test("what it is: 512 calls, maps", "enter 3 1 1 1; strike 3 1;".repeat(255) + "enter 3 7 1 1 = false; numberAt 3 0 = 7");
        edges.test("what it is: 512 calls, panes", "put 0 0 5 1; " + "part 4 0 0 1;".repeat(509) + "put 4 1 3 2 = 2; keyAt 4 1 = 3");
        edges.test("what it is: 512 calls, parts let go", "part 4 0 0 0; sort 0 k;".repeat(255) + "part 4 0 0 0 = 0; kind 4 = p");
        edges.test("what it is: 512 calls, isSound", Edges.KINDS + "isSound;".repeat(498) + "isSound = true");
    }

    private static void slots(Edges edges) {
        edges.test("term: a part stays as the slot of what it looks on becomes another one", NEST + "none 4; things 5 = 3/3 4/4; kind 5 = p;"
                + "put 5 0 9 9 = 3; things 0 = 1/1 2/2 9/9 3/3 4/4 5/5 6/6; things 6 = 2/2 9/9 3/3 4/4 5/5");
        edges.test("term: a fixed part stays as its part's slot becomes another one", NEST + "part 5 0 0 1; things 7 = 3/3 4/4; set 0 2 9 9;"
                + "things 7 = 9/9 4/4");
        edges.test("term: a part stays as that slot becomes a part of itself", NEST + "part 4 4 0 2; things 4 = 2/2 3/3; things 5 = 3/3 4/4;"
                + "put 4 2 9 9; kind 4 = p; kind 5 = -; things 6 = 2/2 3/3 9/9 4/4 5/5");
        edges.test("term: a part's part goes with its list, though its slot is another one", NEST + "none 4; take 0 5; kind 5 = -; kind 6 = -; kind 7 = -;"
                + "kind 4 = e");
        edges.test("term: keys and values stay as their fixed map's slot becomes another one", Edges.KINDS + "keys 4 11; values 5 11; none 11;"
                + "enter 2 7 1 1; numbers 4 = 9 3 7; hashes 5 = 125 188 32; wipe 4 = !Shut; wipe 5 = !Shut");
    }

    /** Lists are lists, parts, fixed ones of these, copies, one alone and none; rows are lists and values. */
    private static void listsAndRows(Edges edges) {
        String house = Edges.KINDS + "sort 0 k; part 4 0 1 3; values 9 11;";
        String[] listCalls = {"walk # true", "isSame # 0", "isSame 0 #", "hash #", "placeOf # 1 1 false", "search # 5", "rowIn # 0 false", "rowIn 0 # true"};
        String[] rowCalls = {"putAll 1 0 #", "keep 0 # true", "keep 0 # false", "often # 1 1", "areApart # 0", "areApart 0 #"};
        String[] fullRowCalls = {"end # true", "share #", "meanKey #"};
        for (String call : listCalls) {
            edges.each("term: lists are lists, parts, fixed ones, copies, one alone and none, " + call, "0 1 4 5 6 7 8", house + call);
            edges.test("term: fixed parts are lists, " + call, house + "fixed 11 4;" + call.replace("#", "11"));
        }
        for (String call : rowCalls) {
            edges.each("term: rows are lists and values, " + call, "0 1 4 5 6 7 8 9 10", house + call);
        }
        for (String call : fullRowCalls) {
            edges.each("term: rows are lists and values, " + call, "0 4 5 6 7 9 10", house + call);
        }
    }

    /** What cannot be changed, by each call that changes. */
    private static void shut(Edges edges) {
        String lists = Edges.THREE + "put 1 0 4 1; part 4 0 1 3; fixed 5 0; fixed 6 4; copies 7 3 5 1; alone 8 5 1; none 9;";
        String[] listCalls = {"put # 0 1 1", "set # 0 1 1", "take # 0", "drop # 5 1", "wipe #", "putAll # 0 1", "keep # 1 true", "keep # 0 false",
            "strip # 5", "weave # 5 1", "raise # 1", "sort # k", "turn #", "swap # 0 1", "rotate # 1", "fill # 1 1"};
        for (String call : listCalls) {
            edges.each("term: by fixed lists, fixed parts, copies, one alone and none nothing can be changed, " + call, "5 6 7 8 9",
                    lists + call + " = !Shut; things 0 = 5/1 3/2 8/0; kinds = llmmpffcae--");
        }
        String maps = "enter 2 9 4 1; enter 2 3 6 2; fixed 4 2; keys 5 4; values 6 4; keys 7 3; alone 8 4 1;";
        String[] mapCalls = {"enter 4 1 1 1", "enter 4 9 1 1", "strike 4 9", "strike 5 9", "wipe 4", "wipe 5", "wipe 6", "raise 4 1", "strip 5 3", "strip 6 2",
            "drop 6 4 1", "keep 6 8 true", "keep 6 8 false", "keepKeys 5 7 true", "keepKeys 5 5 false"};
        for (String call : mapCalls) {
            edges.test("term: by fixed maps, their keys and values nothing can be changed, " + call, maps + call
                    + " = !Shut; hashes 2 = 9 125 3 188; kinds = llmmFkvka---");
        }
    }

    /** Calls that are refused for what comes last: nothing of what is ahead of it is done. */
    private static void refused(Edges edges) {
        edges.test("term: a change that is refused changes nothing, putAll", "copies 4 22 1 1; putAll 0 0 4; put 1 0 2 2; put 1 1 3 3; put 1 2 4 4;"
                + "putAll 0 5 1 = !State; size 0 = 22; often 0 2 2 = 0; putAll 0 0 4 = !State; size 0 = 22");
        edges.test("term: a change that is refused changes nothing, weave", "copies 4 22 1 1; putAll 0 0 4; weave 0 1 2 = !State; size 0 = 22;"
                + "often 0 1 2 = 0");
        edges.test("term: a change that is refused changes nothing, raise of a list", "put 0 0 1 1; put 0 1 2 2; put 0 2 995 3; raise 0 5 = !Argument;"
                + "things 0 = 1/1 2/2 995/3");
        edges.test("term: a change that is refused changes nothing, raise of a map", "enter 2 1 -999 1; enter 2 2 2 2; raise 2 -1 = !Argument;"
                + "hashes 2 = 1 -30968 2 64; enter 3 1 2 2; enter 3 2 -999 1; raise 3 -1 = !Argument; hashes 3 = 1 64 2 -30968");
        edges.test("term: a change that is refused changes nothing, drop of values", "enter 2 1 1 1; enter 2 2 2 2; enter 2 3 1 1; values 4 2;"
                + "drop 4 2 2 = !State; numbers 2 = 1 2 3");
        edges.test("term: a pane that is refused leaves what the slot held", Edges.KINDS + "part 9 0 2 1 = !Argument; copies 9 25 1 1 = !Argument;"
                + "alone 9 1 100 = !Argument; keys 9 0 = !NoSuch; values 9 10 = !NoSuch; fixed 9 9 = !NoSuch; numbers 9 = 9 3");
    }
}

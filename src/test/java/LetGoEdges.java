/** The paragraph of "Terms" on which parts a call lets go, call by call and pane by pane. */
final class LetGoEdges {
    /**
     * 0: 1/1 to 5/5, 1: 9/9 8/8. 4 a part of 0, 5 a part of 4, 6 fixed of 4, 7 fixed of 0, 8 a part of 0 beside 4 with
     * the same things, 9 fixed of 5, 10 a part of 1, 11 fixed of 8.
     */
    private static final String HOUSE = "put 0 0 1 1; put 0 1 2 2; put 0 2 3 3; put 0 3 4 4; put 0 4 5 5; put 1 0 9 9; put 1 1 8 8;"
            + "part 4 0 1 4; part 5 4 1 3; fixed 6 4; fixed 7 0; part 8 0 1 4; fixed 9 5; part 10 1 0 1; fixed 11 8;";
    private static final String ALL = "kinds = llmmppffpfpf";

    private static final String[] LENGTH_CALLS = {"put # 0 7 7", "take # 0", "drop # 3 3", "wipe #", "putAll # 0 1", "putAll # 1 #",
        "keep # 1 true", "keep # 5 false", "strip # 3", "weave # 3 0"};
    private static final String[] SORTS = {"sort # k", "sort # K", "sort # m", "sort # M"};
    private static final String[] CALLS_OF_NO_LENGTH = {"set # 0 7 7", "raise # 1", "turn #", "swap # 0 1", "rotate # 1", "fill # 7 7"};
    private static final String[] CALLS_OF_NOTHING = {"drop # 7 7", "keep # # true", "keep # 7 true", "keep # 1 false", "strip # 9", "weave # 7 7",
        "raise # 0", "swap # 0 0", "rotate # 0"};
    private static final String[] REFUSED_CALLS = {"put # -1 7 7 = !Argument", "put # 0 1000 7 = !Argument", "take # 24 = !Argument",
        "putAll # -1 1 = !Argument", "putAll # 0 2 = !NoSuch", "keep # 3 true = !NoSuch", "keep # 12 false = !Index", "strip # 1 = !Argument",
        "weave # 3 100 = !Argument", "sort # x = !Argument"};

    private LetGoEdges() {
    }

    static void all(Edges edges) {
        for (String call : LENGTH_CALLS) {
            goes(edges, "which changes how many there are", call);
        }
        for (String call : SORTS) {
            goes(edges, "which sorts", call);
        }
        for (String call : CALLS_OF_NO_LENGTH) {
            stays(edges, "which changes not how many there are", call);
        }
        for (String call : CALLS_OF_NOTHING) {
            stays(edges, "which changes nothing", call);
        }
        for (String call : REFUSED_CALLS) {
            stays(edges, "which is refused", call);
        }
        roomless(edges);
        withoutThings(edges);
        asking(edges);
        moreLists(edges);
        againAndAgain(edges);
    }

    private static void goes(Edges edges, String why, String call) {
        String name = "term: " + call + ", " + why + ", ";
        edges.test(name + "of the list: all parts go, and panes on them", HOUSE + call.replace("#", "0") + "; kinds = llmm---f--p-");
        edges.test(name + "through a part: but that", HOUSE + call.replace("#", "4") + "; kinds = llmmp-ff--p-");
        edges.test(name + "through a part's part: but that, and that of which it is one", HOUSE + call.replace("#", "5")
                + "; kinds = llmmppff-fp-");
        edges.test(name + "through the part beside: but that", HOUSE + call.replace("#", "8") + "; kinds = llmm---fp-pf");
    }

    private static void stays(Edges edges, String why, String call) {
        edges.each("term: " + call + ", " + why + ": all stay", "0 4 5 8", HOUSE + call + ";" + ALL);
    }

    private static void roomless(Edges edges) {
        String full = "copies 11 24 7 7; putAll 0 0 11; part 4 0 0 3; part 5 4 0 1; part 6 0 0 3;";
        String[] calls = {"put # 0 1 1 = !State", "putAll # 0 11 = !State", "weave # 7 1 = !State"};
        for (String call : calls) {
            edges.each("term: " + call + ", as there is no room: all stay", "0 4 5", full + call + "; kinds = llmmppp----c");
        }
    }

    private static void withoutThings(Edges edges) {
        String parts = "put 0 0 1 1; put 0 1 2 2; part 4 0 1 1; part 5 0 0 2; part 6 4 0 0; fixed 7 6; part 8 1 0 0; none 9;";
        String all = "; kinds = llmmpppfpe--";
        edges.each("term: wipe of none: all stay", "4 6 1 8", parts + "wipe # = 0" + all);
        edges.each("term: putAll of none: all stay", "0 4 5 6 8 1", parts + "putAll # 0 9; putAll # 0 1; putAll # 0 4" + all);
        edges.test("term: keep of an empty part: all stay", parts + "keep 4 9 true = 0; keep 6 0 false = 0" + all);
        edges.test("term: strip and weave of an empty part: all stay", parts + "strip 4 2 = 0; weave 6 1 1 = 0" + all);
        edges.test("term: sort of an empty part: the others go", parts + "sort 4 k = 0; kinds = llmmp---pe--");
        edges.test("term: sort of an empty part's part: the others go", parts + "sort 6 k = 0; kinds = llmmp-pfpe--");
        edges.test("term: sort of an empty list: its parts go", parts + "sort 1 k = 0; kinds = llmmpppf-e--");
        edges.test("term: sort of a list with one thing: its parts go", "put 0 0 1 1; part 4 0 0 1; sort 0 k = 1; kinds = llmm--------");
        edges.test("term: put into an empty part: the others go", parts + "put 4 0 9 9 = 1; kinds = llmmp---pe--; things 0 = 1/1 9/9 2/2");
        edges.test("term: put into an empty part's part: the others go", parts + "put 6 0 9 9 = 1; kinds = llmmp-pfpe--; things 4 = 9/9");
    }

    private static void asking(Edges edges) {
        String[] calls = {"size #", "walk # true", "isSame # 0", "hash #", "keyAt # 0", "markAt # 0", "placeOf # 3 3 true", "search # 3", "rowIn # 5 false",
            "often # 3 3", "areApart # 0", "end # true", "share #", "meanKey #", "fixed 12 # = !Index", "part 3 # 0 1 = !Index"};
        for (String call : calls) {
            edges.each("term: " + call + ", which asks only: all stay", "0 4 5 8", HOUSE + call + ";" + ALL);
        }
        edges.test("term: checksum and isSound, which ask only: all stay", HOUSE + "checksum; isSound;" + ALL);
    }

    private static void moreLists(Edges edges) {
        edges.test("term: a change of the other list lets its own parts go only", HOUSE + "put 1 0 7 7; kinds = llmmppffpf-f");
        edges.test("term: a change through a part of the other list", HOUSE + "put 10 0 7 7;" + ALL);
        edges.test("term: a change by parts of the other list", HOUSE + "putAll 1 0 4; kinds = llmmppffpf-f; things 4 = 2/2 3/3 4/4");
        edges.test("term: a change of a map lets no part go", HOUSE + "enter 2 1 1 1; raise 2 1; strike 2 1; wipe 3;" + ALL);
        edges.test("term: a change of a map lets no pane on it go", Edges.KINDS + "enter 2 1 1 1; strip 10 2; wipe 9; kinds = llmmpfcaekvF");
        edges.test("term: a change of a list lets no other pane go", Edges.KINDS + "put 0 0 1 1; kinds = llmm-fcaekvF; size 6 = 2; size 7 = 1;"
                + "size 5 = 4; size 9 = 2");
    }

    private static void againAndAgain(Edges edges) {
        edges.test("term: a part that stayed goes by a later change", HOUSE + "put 4 0 7 7; kinds = llmmp-ff--p-; put 0 0 7 7; kinds = llmm---f--p-");
        edges.test("term: a part that stayed stays by changes through it", HOUSE + "put 5 0 7 7; take 5 0; sort 5 k; kinds = llmmppff-fp-;"
                + "things 4 = 2/2 3/3 4/4");
        edges.test("term: a change through the part around, after one through the part", HOUSE + "put 5 0 7 7; put 4 0 6 6; kinds = llmmp-ff--p-;"
                + "things 4 = 6/6 2/2 7/7 3/3 4/4");
        edges.test("term: parts made after a change are let go as others are", HOUSE + "put 0 0 7 7; part 4 0 0 2; part 5 4 0 1; put 4 0 6 6;"
                + "kinds = llmmp--f--p-; part 5 4 0 1; part 6 4 0 1; put 5 0 5 5; kinds = llmmpp-f--p-");
        edges.test("term: a slot that holds none takes another pane", HOUSE + "take 0 0; part 4 0 0 1 = 1; kinds = llmmp--f--p-; things 4 = 2/2");
        edges.test("term: what looked on a part that was let go is not on the one in its slot", HOUSE + "take 0 0; part 4 0 0 2; fixed 6 4;"
                + "put 4 0 7 7; kinds = llmmp-ff--p-; things 6 = 7/7 2/2 3/3");
    }
}

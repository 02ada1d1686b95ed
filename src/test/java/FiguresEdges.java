/** Sentences of promises 43 to 46: figures. */
final class FiguresEdges {
    private FiguresEdges() {
    }

    static void all(Edges edges) {
        share(edges);
        meanKey(edges);
        refused(edges, "43 share");
        refused(edges, "44 meanKey");
        checksum(edges);
        isSound(edges);
    }

    private static void share(Edges edges) {
        edges.test("43 share: keys above 0, not 0 and not below", "put 0 0 1 0; put 0 1 0 0; put 0 2 -1 0; share 0 = 0.33333334");
        edges.test("43 share: none is above 0", "put 0 0 0 9; put 0 1 -999 9; share 0 = 0.0");
        edges.test("43 share: all are above 0", "copies 4 24 1 0; share 4 = 1.0");
        edges.test("43 share: one thing", "alone 4 1 0; share 4 = 1.0; alone 4 0 99; share 4 = 0.0; alone 4 -1 1; share 4 = 0.0");
        edges.test("43 share: 5 of 24", Edges.FULL + "fill 0 0 0; part 4 0 3 8; fill 4 1 1; share 0 = 0.20833333; share 4 = 1.0");
        edges.test("43 share: of a part only", "put 0 0 1 0; put 0 1 0 0; put 0 2 1 0; part 4 0 1 3; share 4 = 0.5; share 0 = 0.6666667");
        edges.test("43 share: of values, not of their numbers", "enter 2 5 -1 1; enter 2 6 4 1; enter 2 7 0 1; values 4 2; share 4 = 0.33333334");
        edges.test("43 share: of values of a fixed map, and a fixed list", Edges.KINDS + "values 4 11; share 4 = 1.0; share 5 = 1.0");
    }

    private static void meanKey(Edges edges) {
        edges.test("44 meanKey: a third of a sum", "put 0 0 1 0; put 0 1 0 0; put 0 2 -5 0; meanKey 0 = -1.3333333333333333");
        edges.test("44 meanKey: a sum of 0", "put 0 0 5 9; put 0 1 -5 9; meanKey 0 = 0.0");
        edges.test("44 meanKey: all keys 0", "put 0 0 0 9; meanKey 0 = 0.0");
        edges.test("44 meanKey: the greatest and the least keys", "copies 4 24 999 99; meanKey 4 = 999.0; copies 4 24 -999 0; meanKey 4 = -999.0");
        edges.test("44 meanKey: one thing", "alone 4 7 3; meanKey 4 = 7.0");
        edges.test("44 meanKey: of 24", Edges.FULL + "set 0 5 8 0; meanKey 0 = 7.041666666666667");
        edges.test("44 meanKey: of a part only", "put 0 0 9 0; put 0 1 1 0; put 0 2 2 0; put 0 3 9 0; part 4 0 1 3; meanKey 4 = 1.5");
        edges.test("44 meanKey: of values, not of their numbers", "enter 2 50 -1 1; enter 2 60 4 1; values 4 2; meanKey 4 = 1.5");
        edges.test("44 meanKey: of values of a fixed map, and a fixed list", Edges.KINDS + "values 4 11; meanKey 4 = 5.0;"
                + "meanKey 5 = 5.333333333333333");
    }

    private static void refused(Edges edges, String promise) {
        String call = promise.substring(3);
        edges.each(promise + ": no such slot", Edges.NO_SLOTS, call + " # = !Index");
        edges.each(promise + ": it holds no row, slot", Edges.NO_ROWS, Edges.KINDS + call + " # = !NoSuch");
        edges.test(promise + ": it holds nothing", call + " 4 = !NoSuch; " + call + " 11 = !NoSuch");
        edges.each(promise + ": it has no things, slot", "0 1 4 5 6 7 8 11", Edges.HOLLOW + call + " # = !Arithmetic");
        edges.test(promise + ": it has no things any more", Edges.THREE + "wipe 0; " + call + " 0 = !Arithmetic");
        edges.each(promise + ": NoSuch ahead of Arithmetic", "2 3 9 10", Edges.HOLLOW + call + " # = !NoSuch");
    }

    private static void checksum(Edges edges) {
        edges.test("45 checksum: of a new object", "checksum = " + sum("l0 l0 m0 m0 - - - - - - - -"));
        edges.test("45 checksum: of each kind", Edges.KINDS + "checksum = " + sum("l3,156,95,248 l0 m2,9,125,3,188 m0 p2,95,248"
                + " f3,156,95,248 c2,125,125 a1,156 e0 k2,9,3 v2,125,188 F2,9,125,3,188"));
        edges.test("45 checksum: twice the same", Edges.KINDS + "checksum; checksum = " + sum("l3,156,95,248 l0 m2,9,125,3,188 m0 p2,95,248"
                + " f3,156,95,248 c2,125,125 a1,156 e0 k2,9,3 v2,125,188 F2,9,125,3,188"));
        edges.test("45 checksum: slots that hold nothing between", "alone 4 1 1; none 11; checksum = "
                + sum("l0 l0 m0 m0 a1,32 - - - - - - e0"));
        edges.test("45 checksum: numbers below 0 and in map 3", "enter 3 -5 -7 3; checksum = " + sum("l0 l0 m0 m1,-5,-214 - - - - - - - -"));
        edges.test("45 checksum: goes round", "copies 4 24 999 99; checksum = " + sum("l0 l0 m0 m0 c24" + ",31068".repeat(24)
                + " - - - - - - -"));
    }

    /** For each slot the sign of its kind, how many it has, and each, as the document says. */
    private static long sum(String told) {
        long sum = 7;
        for (String slot : told.split(" ")) {
            sum = 31 * sum + slot.charAt(0);
            if (slot.length() > 1) {
                for (String one : slot.substring(1).split(",")) {
                    sum = 31 * sum + Integer.parseInt(one);
                }
            }
        }
        return sum;
    }

    private static void isSound(Edges edges) {
        edges.test("46 isSound: of a new object", "isSound = true");
        edges.test("46 isSound: of each kind", Edges.KINDS + "isSound = true");
        edges.test("46 isSound: without things", Edges.HOLLOW + "isSound = true");
        edges.test("46 isSound: full", Edges.FULL + Edges.numbers(2, 1, 24) + Edges.numbers(3, -12, 11) + "putAll 1 0 0; part 4 0 0 24;"
                + "part 5 4 1 23; keys 6 2; values 7 3; copies 8 24 7 7; fixed 9 3; fixed 10 5; isSound = true");
        edges.test("46 isSound: things that fall", "put 0 0 9 1; put 0 1 8 2; put 0 2 7 3; isSound = true");
        edges.test("46 isSound: the farthest keys and numbers", "put 0 0 999 99; put 0 1 -999 0; enter 3 2147483647 999 99;"
                + "enter 3 -2147483648 -999 0; keys 4 3; values 5 3; isSound = true");
        edges.test("46 isSound: lists and maps that are the same", "put 0 0 1 1; put 1 0 1 1; enter 2 9 1 1; enter 2 3 1 1; enter 3 9 1 1;"
                + "enter 3 3 1 1; isSound = true");
        edges.test("46 isSound: lists with the same hash that are not the same", "put 0 0 1 0; put 1 0 0 31; enter 2 9 1 0; enter 3 9 0 31;"
                + "isSound = true");
        edges.test("46 isSound: maps with less and more", "enter 2 9 1 1; enter 3 9 1 1; enter 3 3 1 1; isSound = true");
        edges.test("46 isSound: a part that was changed, and one whose slot is another one", Edges.THREE + "part 4 0 1 3; part 5 4 0 1;"
                + "put 5 1 9 9; none 4; isSound = true; wipe 5; isSound = true");
        edges.test("46 isSound: nothing is changed by that", "put 0 0 3 1; put 0 1 1 2; part 4 0 0 2; fixed 5 4; enter 2 9 4 1; enter 2 3 6 2;"
                + "isSound = true; things 0 = 3/1 1/2; things 4 = 3/1 1/2; things 5 = 3/1 1/2; numbers 2 = 9 3; kinds = llmmpf------");
    }
}

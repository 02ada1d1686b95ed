/** Houses that tests begin with. */
final class Houses {
    private Houses() {
    }

    /** Slot 0 holds these things: key, mark, key, mark and so on. */
    static Viewhouse listed(int... keysAndMarks) {
        Viewhouse house = new Viewhouse();
        for (int i = 0; i + 1 < keysAndMarks.length; i += 2) {
            house.put(0, i / 2, keysAndMarks[i], keysAndMarks[i + 1]);
        }
        return house;
    }

    /** A map holds these: number, key, mark, number and so on. */
    static Viewhouse mapped(int slot, int... numbersKeysAndMarks) {
        Viewhouse house = new Viewhouse();
        for (int i = 0; i + 2 < numbersKeysAndMarks.length; i += 3) {
            house.enter(slot, numbersKeysAndMarks[i], numbersKeysAndMarks[i + 1], numbersKeysAndMarks[i + 2]);
        }
        return house;
    }

    /** Both lists and both maps are full, list 1 being like list 0 and map 3 like map 2. */
    static Viewhouse full() {
        Viewhouse house = new Viewhouse();
        for (int i = 0; i < 24; i++) {
            house.put(0, i, i, i);
            house.put(1, i, i, i);
            house.enter(2, 23 - i, i, i);
            house.enter(3, 23 - i, i, i);
        }
        return house;
    }

    /**
     * Slot 0 has 3 things, map 2 has 2 numbers; 4 a part, 5 a fixed list, 6 copies, 7 alone, 8 none of things,
     * 9 keys, 10 values, 11 a fixed map.
     */
    static Viewhouse allKinds() {
        Viewhouse house = listed(5, 1, 3, 2, 8, 0);
        house.enter(2, 9, 4, 1);
        house.enter(2, 3, 6, 2);
        house.part(4, 0, 1, 3);
        house.fixed(5, 0);
        house.copies(6, 2, 4, 1);
        house.alone(7, 5, 1);
        house.none(8);
        house.keys(9, 2);
        house.values(10, 2);
        house.fixed(11, 2);
        return house;
    }

    /** The keys that a list tells, each with a blank behind it. */
    static String keys(Viewhouse house, int slot) {
        StringBuilder keys = new StringBuilder();
        for (int i = 0; i < house.size(slot); i++) {
            keys.append(house.keyAt(slot, i)).append(' ');
        }
        return keys.toString();
    }

    /** The keys and marks that a list tells. */
    static String things(Viewhouse house, int slot) {
        StringBuilder things = new StringBuilder();
        for (int i = 0; i < house.size(slot); i++) {
            things.append(house.keyAt(slot, i)).append('/').append(house.markAt(slot, i)).append(' ');
        }
        return things.toString();
    }

    /** The numbers that a map or keys tell. */
    static String numbers(Viewhouse house, int slot) {
        StringBuilder numbers = new StringBuilder();
        for (int i = 0; i < house.size(slot); i++) {
            numbers.append(house.numberAt(slot, i)).append(' ');
        }
        return numbers.toString();
    }

    static String kinds(Viewhouse house) {
        StringBuilder kinds = new StringBuilder();
        for (int slot = 0; slot < 12; slot++) {
            kinds.append(house.kind(slot));
        }
        return kinds.toString();
    }
}

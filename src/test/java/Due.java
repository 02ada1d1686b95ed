/** Holds answers against those that are due, prints each other one, and ends the test. */
final class Due {
    interface Call {
        Object answer();
    }

    interface SlotCall {
        Object made(Viewhouse house, int slot);
    }

    private int wrong;
    private int asked;

    void is(String call, Object want, Call made) {
        asked++;
        Object got;
        try {
            got = made.answer();
        } catch (RuntimeException e) {
            got = e.getClass().getName();
        }
        if (!want.equals(got)) {
            wrong++;
            System.out.println(call + " answered " + got + ", due is " + want);
        }
    }

    /** The call is to throw just this exception, and to change nothing. */
    void refuses(String call, Class<? extends RuntimeException> want, Viewhouse house, Call made) {
        long before = house.checksum();
        is(call, want.getName(), made);
        is(call + ": checksum() then", before, house::checksum);
    }

    void slotless(String call, Viewhouse house, Call made) {
        refuses(call, IndexOutOfBoundsException.class, house, made);
    }

    void missing(String call, Viewhouse house, Call made) {
        refuses(call, java.util.NoSuchElementException.class, house, made);
    }

    void fixed(String call, Viewhouse house, Call made) {
        refuses(call, UnsupportedOperationException.class, house, made);
    }

    void illegal(String call, Viewhouse house, Call made) {
        refuses(call, IllegalArgumentException.class, house, made);
    }

    void unready(String call, Viewhouse house, Call made) {
        refuses(call, IllegalStateException.class, house, made);
    }

    /** A call that changes lists is to be refused of a fixed list, copies, one alone and none of things. */
    void refusesFixedLists(int promise, SlotCall call) {
        Viewhouse kinds = Houses.allKinds();
        for (int slot = 5; slot < 9; slot++) {
            int s = slot;
            fixed(promise + ": slot " + s, kinds, () -> call.made(kinds, s));
        }
    }

    /** A call on lists is to be refused where no list is. */
    void refusesOthers(int promise, SlotCall call) {
        Viewhouse kinds = Houses.allKinds();
        for (int slot : new int[] {2, 3, 9, 10, 11}) {
            missing(promise + ": slot " + slot, kinds, () -> call.made(kinds, slot));
        }
        refusesEmptySlots(promise, call);
    }

    /** A call on maps is to be refused where neither a map nor keys are. */
    void refusesNumberless(int promise, SlotCall call) {
        Viewhouse kinds = Houses.allKinds();
        for (int slot : new int[] {0, 1, 4, 5, 6, 7, 8, 10}) {
            missing(promise + ": slot " + slot, kinds, () -> call.made(kinds, slot));
        }
        refusesEmptySlots(promise, call);
    }

    private void refusesEmptySlots(int promise, SlotCall call) {
        Viewhouse fresh = new Viewhouse();
        missing(promise + ": nothing", fresh, () -> call.made(fresh, 4));
        slotless(promise + ": -1", fresh, () -> call.made(fresh, -1));
        slotless(promise + ": 12", fresh, () -> call.made(fresh, 12));
    }

    void end() {
        System.out.println(wrong == 0 ? asked + " answers are as due" : wrong + " of " + asked + " answers are not as due");
        if (wrong != 0) {
            System.exit(1);
        }
    }
}

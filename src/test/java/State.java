/** All that an object tells of what is: for calls that must leave it as it was. */
final class State {
    private static final int TAPE = 9;

    private State() { }

    /** Some 17 calls, 11 more for each HOUSE and 3 for each SPARE. */
    static int[] of(RightKeys keys) {
        int houses = keys.count(0);
        int spares = keys.count(1);
        int[] all = new int[17 + 11 * houses + 3 * spares];
        int at = 0;
        for (int what = 0; what < 17; what++) {
            all[at++] = keys.count(what);
        }
        for (int house = 0; house < houses; house++) {
            for (int what = 0; what < 10; what++) {
                all[at++] = keys.house(house, what);
            }
            all[at++] = keys.by(house);
        }
        for (int spare = 0; spare < spares; spare++) {
            for (int what = 0; what < 3; what++) {
                all[at++] = keys.spare(spare, what);
            }
        }
        return all;
    }

    static void stays(String call, RightKeys keys, Runnable calls) {
        int[] before = of(keys);
        calls.run();
        same(call, before, of(keys));
    }

    /** As stays, but for the tape, which read() empties. */
    static void staysButTape(String call, RightKeys keys, Runnable calls) {
        int[] before = of(keys);
        calls.run();
        int[] after = of(keys);
        before[TAPE] = 0;
        same(call, before, after);
    }

    static void same(String call, int[] before, int[] after) {
        Calls.due(call + ": as much is told", after.length, before.length);
        for (int i = 0; i < Math.min(before.length, after.length); i++) {
            Calls.due(call + ": answer " + i + " of the state", after[i], before[i]);
        }
    }
}

/** Promise 17: count. */
public final class CountTest {
    public static void main(String[] args) {
        GuardVolume volume = new GuardVolume();
        volume.plan(0, 7, 0, 0);
        volume.plan(0, 9, 0, 0);
        volume.plan(1, 8, 0, 0);
        volume.write(0, 0, 1);
        volume.write(63, 0, 1);
        volume.write(62, 0, 1);
        volume.scrub(11);
        counts("on", volume, 6, 6, 2, 1, 1, -1, 11, 2);
        volume.cutAfter(2);
        volume.write(61, 0, 1);
        counts("off", volume, 7, 7, 1, 1, 0, 61, 11, 3);
        volume.start();
        counts("on again", volume, 9, 9, 0, 0, 1, -1, 11, 4);
        volume.cutAfter(0);
        volume.write(0, 0, 2);
        counts("block 0 is noted", volume, 9, 9, 0, 0, 0, 0, 11, 4);
        for (int what : new int[] {-1, 8, Integer.MIN_VALUE, Integer.MAX_VALUE}) {
            Check.refused("count " + what, Check.BOUNDS, volume, () -> volume.count(what));
        }
        journalVersionIsNoListVersion();
        Check.end();
    }

    private static void counts(String when, GuardVolume volume, int... due) {
        for (int what = 0; what < 8; what++) {
            Check.same(when + ": count(" + what + ")", volume.count(what), due[what]);
        }
    }

    private static void journalVersionIsNoListVersion() {
        GuardVolume volume = new GuardVolume();
        volume.cutAfter(0);
        volume.write(5, 0, 1);
        Check.same("the memory has versions of lists", volume.count(7), 0);
    }
}

/** Promises 1 and 14: a new object, and the numbers of its rows. */
public final class NewObjectTest {
    public static void main(String[] args) {
        GuardVolume volume = new GuardVolume();
        int[] counts = {0, 0, 0, 0, 1, -1, 0, 0};
        for (int what = 0; what < 8; what++) {
            Check.same("new: count(" + what + ")", volume.count(what), counts[what]);
        }
        Check.same("new: code()", volume.code(), 0);
        Check.same("new: findings(false)", volume.findings(false), 0);
        for (int drive = 0; drive < 2; drive++) {
            for (int slot = 0; slot < 72; slot++) {
                String due = "0 0 0 0 0 0 0 0 " + slot * 32 + " " + slot + " 0";
                Check.holds("new: row " + drive + " " + slot, Look.row(volume, drive, slot).equals(due));
            }
            for (int block = 0; block < 64; block++) {
                Check.same("new: expected", volume.expected(drive, block), 0);
                Check.same("new: verdict", volume.verdict(drive, block), 0);
            }
            for (int page = 0; page < 8; page++) {
                Check.holds("new: page right", volume.isRight(drive, page));
            }
        }
        Check.refused("power is on, so start()", Check.STATE, volume, () -> volume.start());
        sums();
        rawOutside(volume);
        twoObjects();
        Check.end();
    }

    /** The sums are worked out by hand: each number is turned left by 5 for each one behind it. */
    private static void sums() {
        GuardVolume volume = new GuardVolume();
        volume.write(0, 7, 1);
        Check.same("sum of word 7 = 1, version 1", volume.raw(0, 0, 8), 1024 + 1);
        volume.write(0, 7, 0);
        volume.write(0, 2, 1);
        Check.same("sum of word 2 = 1 (turned by 35), version 3", volume.raw(0, 0, 8), 8 + 3);
        volume.write(0, 2, 0);
        volume.write(0, 7, -1);
        Check.same("sum of word 7 = -1, version 5", volume.raw(0, 0, 8), -1 + 5);
        volume.write(63, 7, 0x08000000);
        Check.same("sum wraps over the top", volume.raw(1, 63, 8), 32 + 63 * 32 + 1);
        Check.same("address behind the sum", volume.raw(1, 63, 9), 63);
        Check.same("version last", volume.raw(1, 63, 10), 1);
    }

    private static void rawOutside(GuardVolume volume) {
        int[][] outside = {{-1, 0, 0}, {2, 0, 0}, {0, -1, 0}, {0, 72, 0}, {0, 0, -1}, {0, 0, 11}, {1, 71, 11},
            {Integer.MIN_VALUE, 0, 0}, {0, Integer.MAX_VALUE, 0}, {0, 0, Integer.MIN_VALUE}};
        for (int[] a : outside) {
            Check.refused("raw(" + a[0] + ", " + a[1] + ", " + a[2] + ")", Check.BOUNDS, volume,
                    () -> volume.raw(a[0], a[1], a[2]));
        }
        Check.same("raw at its last place", volume.raw(1, 71, 10), 0);
        GuardVolume off = new GuardVolume();
        off.cutAfter(0);
        off.write(1, 1, 1);
        Check.same("raw needs no power", off.raw(1, 71, 9), 71);
    }

    private static void twoObjects() {
        GuardVolume one = new GuardVolume();
        GuardVolume other = new GuardVolume();
        String before = Look.all(other);
        one.plan(0, 1, 0, 0);
        one.write(3, 3, 3);
        one.scrub(64);
        Check.holds("objects share nothing", Look.all(other).equals(before));
    }
}

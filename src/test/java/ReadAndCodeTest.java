/** Promises 3 and 4: read, code. */
public final class ReadAndCodeTest {
    public static void main(String[] args) {
        eachWord();
        eachCode();
        codeStaysWhenThrown();
        outside();
        Check.end();
    }

    private static void eachWord() {
        GuardVolume volume = new GuardVolume();
        for (int word = 0; word < 8; word++) {
            volume.write(30, word, 100 + word);
        }
        for (int word = 0; word < 8; word++) {
            Check.same("word " + word, volume.read(30, word), 100 + word);
        }
        Check.same("a block never written", volume.read(31, 0), 0);
        String before = Look.all(volume);
        volume.read(30, 3);
        Check.holds("reading changes nothing", Look.all(volume).equals(before));
    }

    private static void eachCode() {
        GuardVolume volume = new GuardVolume();
        volume.write(5, 1, 50);
        volume.plan(0, 1, 0, 0);
        volume.write(6, 1, 60);
        volume.plan(0, 1, 0, 0);
        volume.plan(1, 2, 0, 0);
        volume.write(7, 1, 70);
        Check.same("code of write by copy 0", volume.code(), 0);
        Check.same("from copy 0", volume.read(5, 1), 50);
        Check.same("code", volume.code(), 0);
        Check.same("from copy 1", volume.read(6, 1), 60);
        Check.same("code", volume.code(), 1);
        Check.same("from none", volume.read(7, 1), 0);
        Check.same("code", volume.code(), 2);
        Check.same("from copy 0 again", volume.read(5, 1), 50);
        Check.same("code", volume.code(), 0);
        Check.same("write to none", volume.write(7, 1, 71), 2);
        Check.same("code 2 from write", volume.code(), 2);
        volume.scrub(64);
        Check.same("no scrub is a read", volume.code(), 2);
        volume.rebuild(0);
        Check.same("no rebuild is a read", volume.code(), 2);
        Check.same("write by copy 0", volume.write(6, 1, 61), 0);
        Check.same("code 0 from write", volume.code(), 0);
    }

    private static void codeStaysWhenThrown() {
        GuardVolume volume = new GuardVolume();
        for (int i = 0; i < 60; i++) {
            volume.write(1, 0, i);
        }
        volume.plan(0, 1, 0, 0);
        volume.write(2, 0, 1);
        volume.read(2, 0);
        Check.same("code 1", volume.code(), 1);
        Check.refused("read outside", Check.BOUNDS, volume, () -> volume.read(64, 0));
        Check.refused("version 60", Check.UNSUPPORTED, volume, () -> volume.write(1, 0, 0));
        volume.cutAfter(0);
        Check.same("a cut write was a read, too", volume.write(3, 0, 0), 3);
        Check.same("code 0", volume.code(), 0);
        Check.refused("read when off", Check.STATE, volume, () -> volume.read(2, 0));
        Check.same("code needs no power", volume.code(), 0);
        volume.start();
        Check.same("start is no read", volume.code(), 0);
    }

    private static void outside() {
        GuardVolume volume = new GuardVolume();
        int[][] outside = {{-1, 0}, {64, 0}, {0, -1}, {0, 8}, {65, 0}, {Integer.MAX_VALUE, 0}, {0, Integer.MIN_VALUE}};
        for (int[] a : outside) {
            Check.refused("read " + a[0] + " " + a[1], Check.BOUNDS, volume, () -> volume.read(a[0], a[1]));
        }
        volume.cutAfter(0);
        volume.write(1, 1, 1);
        Check.refused("outside when off", Check.BOUNDS, volume, () -> volume.read(0, 8));
        Check.refused("read when off", Check.STATE, volume, () -> volume.read(0, 7));
    }
}

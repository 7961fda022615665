/** Promise 2: write. */
public final class WriteTest {
    public static void main(String[] args) {
        ordinary();
        listsOfOneBlockOnly();
        fromCopyOne();
        noneGood();
        cutAtEachWrite();
        lastVersion();
        outside();
        listFromOtherPage();
        listFromZeros();
        Check.end();
    }

    private static void ordinary() {
        GuardVolume volume = new GuardVolume();
        Check.same("write", volume.write(17, 2, 40), 0);
        Check.same("write again", volume.write(17, 5, -7), 0);
        String due = Look.wholeRow(new int[] {0, 0, 40, 0, 0, -7, 0, 0}, 17, 2);
        String list = Look.wholeRow(new int[] {0, 2, 0, 0, 0, 0, 0, 0}, 66, 2);
        for (int drive = 0; drive < 2; drive++) {
            Check.holds("copy " + drive + " is written", Look.row(volume, drive, 17).equals(due));
            Check.holds("list on " + drive + " is written", Look.row(volume, drive, 66).equals(list));
            Check.same("writes of drive " + drive, volume.count(drive), 4);
        }
        Check.same("greatest version", volume.count(7), 2);
        Check.same("journal empty", volume.count(5), -1);
    }

    private static void listsOfOneBlockOnly() {
        GuardVolume volume = new GuardVolume();
        volume.write(8, 0, 1);
        volume.write(15, 0, 1);
        volume.write(15, 0, 1);
        volume.write(16, 0, 1);
        int[] versions = {1, 0, 0, 0, 0, 0, 0, 2};
        Check.holds("one page for 8 .. 15", Look.row(volume, 0, 65).equals(Look.wholeRow(versions, 65, 3)));
        Check.same("the next page for 16", volume.raw(1, 66, 0), 1);
        Check.same("its version is its own", volume.raw(1, 66, 10), 1);
        Check.same("greatest version of all pages", volume.count(7), 3);
    }

    private static void fromCopyOne() {
        GuardVolume volume = new GuardVolume();
        volume.write(4, 0, 5);
        volume.plan(0, 1, 0, 0);
        volume.write(4, 1, 6);
        Check.same("copy 0 is old", volume.verdict(0, 4), 4);
        Check.same("write from copy 1", volume.write(4, 2, 7), 0);
        Check.same("code of the write", volume.code(), 1);
        String due = Look.wholeRow(new int[] {5, 6, 7, 0, 0, 0, 0, 0}, 4, 3);
        Check.holds("copy 0 is new", Look.row(volume, 0, 4).equals(due));
        Check.holds("copy 1 is new", Look.row(volume, 1, 4).equals(due));
    }

    private static void noneGood() {
        GuardVolume volume = new GuardVolume();
        volume.plan(0, 1, 0, 0);
        volume.plan(1, 2, 0, 0);
        volume.write(4, 0, 5);
        String rows = Look.rows(volume, 0) + Look.rows(volume, 1);
        volume.cutAfter(0);
        Check.same("none is good", volume.write(4, 0, 6), 2);
        Check.same("its code", volume.code(), 2);
        Check.holds("nothing is written", rows.equals(Look.rows(volume, 0) + Look.rows(volume, 1)));
        Check.same("no write, so power stays", volume.count(4), 1);
        Check.same("nothing is noted", volume.count(5), -1);
    }

    private static void cutAtEachWrite() {
        for (int n = 0; n <= 4; n++) {
            GuardVolume volume = new GuardVolume();
            volume.write(20, 0, 1);
            volume.cutAfter(n);
            Check.same("cut behind " + n, volume.write(20, 0, 2), n == 4 ? 0 : 3);
            Check.same("code of a cut write", volume.code(), 0);
            Check.same("power behind " + n, volume.count(4), n == 4 ? 1 : 0);
            Check.same("journal behind " + n, volume.count(5), n == 4 ? -1 : 20);
            Check.same("copy 0 behind " + n, volume.raw(0, 20, 0), n >= 1 ? 2 : 1);
            Check.same("list on 1 behind " + n, volume.raw(1, 66, 4), n >= 2 ? 2 : 1);
            Check.same("copy 1 behind " + n, volume.raw(1, 20, 0), n >= 3 ? 2 : 1);
            Check.same("list on 0 behind " + n, volume.raw(0, 66, 4), n >= 4 ? 2 : 1);
            Check.same("writes of 0 behind " + n, volume.count(0), 2 + new int[] {0, 1, 1, 1, 2}[n]);
            Check.same("writes of 1 behind " + n, volume.count(1), 2 + new int[] {0, 0, 1, 2, 2}[n]);
            Check.same("memory behind " + n, volume.count(7), n >= 2 ? 2 : 1);
            Check.holds("page on 1 behind " + n, volume.isRight(1, 2));
            Check.holds("page on 0 behind " + n, volume.isRight(0, 2));
        }
    }

    private static void lastVersion() {
        GuardVolume volume = new GuardVolume();
        for (int i = 1; i <= 60; i++) {
            Check.same("write " + i, volume.write(33, 0, i), 0);
        }
        Check.same("version", volume.raw(0, 33, 10), 60);
        volume.plan(0, 1, 0, 0);
        volume.write(34, 0, 1);
        volume.read(34, 0);
        Check.same("code before", volume.code(), 1);
        Check.refused("write to version 60", Check.UNSUPPORTED, volume, () -> volume.write(33, 0, 61));
        Check.same("other blocks may be written", volume.write(35, 0, 1), 0);
        Check.refused("word outside, version 60", Check.BOUNDS, volume, () -> volume.write(33, 8, 0));
        volume.cutAfter(0);
        volume.write(35, 0, 2);
        Check.refused("off, version 60", Check.STATE, volume, () -> volume.write(33, 0, 61));
    }

    private static void outside() {
        GuardVolume volume = new GuardVolume();
        int[][] outside = {{-1, 0}, {64, 0}, {0, -1}, {0, 8}, {71, 0}, {Integer.MIN_VALUE, 0}, {0, Integer.MAX_VALUE}};
        for (int[] a : outside) {
            Check.refused("write " + a[0] + " " + a[1], Check.BOUNDS, volume, () -> volume.write(a[0], a[1], 1));
        }
        Check.same("first place", volume.write(0, 0, Integer.MIN_VALUE), 0);
        Check.same("last place", volume.write(63, 7, Integer.MAX_VALUE), 0);
        Check.same("first place read", volume.read(0, 0), Integer.MIN_VALUE);
        Check.same("last place read", volume.read(63, 7), Integer.MAX_VALUE);
        volume.cutAfter(1);
        volume.write(1, 1, 1);
        Check.refused("outside when off", Check.BOUNDS, volume, () -> volume.write(64, 0, 1));
        Check.refused("write when off", Check.STATE, volume, () -> volume.write(0, 0, 1));
    }

    /** The list on drive 1 was dropped: it is made anew from the page on drive 0, which has the neighbours too. */
    private static void listFromOtherPage() {
        GuardVolume volume = new GuardVolume();
        volume.write(1, 0, 1);
        volume.plan(1, 1, 0, 0);
        volume.write(2, 0, 1);
        Check.holds("list on 1 is wrong", !volume.isRight(1, 0));
        Check.holds("list on 0 is right", volume.isRight(0, 0));
        volume.write(3, 0, 1);
        int[] versions = {0, 1, 1, 1, 0, 0, 0, 0};
        Check.holds("list on 1 from that on 0", Look.row(volume, 1, 64).equals(Look.wholeRow(versions, 64, 3)));
        Check.holds("list on 1 is right again", volume.isRight(1, 0));
    }

    /** Both lists are wrong when copy 0 is put anew: the first is made from zeros, the second from the first. */
    private static void listFromZeros() {
        GuardVolume volume = new GuardVolume();
        volume.write(1, 0, 1);
        volume.write(2, 0, 1);
        volume.plan(1, 1, 0, 0);
        volume.cutAfter(3);
        volume.write(3, 0, 9);
        volume.plan(0, 1, 1, 64);
        Check.same("put anew", volume.start(), 4);
        int[] versions = {0, 0, 0, 1, 0, 0, 0, 0};
        Check.holds("list on 1 from zeros", Look.row(volume, 1, 64).equals(Look.wholeRow(versions, 64, 4)));
        Check.holds("list on 0 from that on 1", Look.row(volume, 0, 64).equals(Look.wholeRow(versions, 64, 3)));
        Check.same("copy 0 of 1 is newer now", volume.verdict(0, 1), 5);
        Check.same("copy 1 of 1 is newer now", volume.verdict(1, 1), 5);
        Check.same("block 3 is good", volume.read(3, 0), 9);
    }
}

/** Promises 6 and 7: cutAfter, start. */
public final class PowerTest {
    public static void main(String[] args) {
        cutIsCountedOverBothDrives();
        cutTakenBack();
        newCutInsteadOfOld();
        startPutsAnew();
        startWithoutJournal();
        startKeepsTheNotedWords();
        outside();
        whatWorksWithoutPower();
        Check.end();
    }

    private static void cutIsCountedOverBothDrives() {
        GuardVolume volume = new GuardVolume();
        volume.cutAfter(100);
        for (int i = 0; i < 25; i++) {
            Check.same("write " + i, volume.write(i, 0, 1), 0);
        }
        Check.same("on behind 100 writes", volume.count(4), 1);
        Check.same("reads go on", volume.read(24, 0), 1);
        Check.same("a scrub without writes goes on", volume.scrub(64), 0);
        Check.same("the 101st", volume.write(25, 0, 1), 3);
        Check.same("off", volume.count(4), 0);
        Check.same("not done", volume.raw(0, 25, 0), 0);
    }

    private static void cutTakenBack() {
        GuardVolume volume = new GuardVolume();
        volume.cutAfter(0);
        volume.cutAfter(-1);
        for (int i = 0; i < 30; i++) {
            Check.same("no cut", volume.write(1, 0, i), 0);
        }
    }

    private static void newCutInsteadOfOld() {
        GuardVolume volume = new GuardVolume();
        volume.cutAfter(2);
        volume.cutAfter(5);
        Check.same("the old cut is gone", volume.write(1, 0, 1), 0);
        volume.cutAfter(0);
        Check.same("the new one", volume.write(1, 0, 2), 3);
        Check.same("nothing done", volume.count(0) + volume.count(1), 4);
    }

    private static void startPutsAnew() {
        for (int n = 0; n < 4; n++) {
            GuardVolume volume = new GuardVolume();
            volume.write(50, 1, 8);
            volume.cutAfter(n);
            volume.write(50, 2, 9);
            Check.same("writes of start() behind " + n, volume.start(), 4);
            Check.same("power", volume.count(4), 1);
            Check.same("journal", volume.count(5), -1);
            String due = Look.wholeRow(new int[] {0, 8, 9, 0, 0, 0, 0, 0}, 50, 2);
            for (int drive = 0; drive < 2; drive++) {
                Check.holds("copy behind " + n, Look.row(volume, drive, 50).equals(due));
                Check.same("verdict behind " + n, volume.verdict(drive, 50), 0);
            }
            int[] versions = {0, 0, 2, 0, 0, 0, 0, 0};
            Check.holds("list on 1 behind " + n, Look.row(volume, 1, 70)
                    .equals(Look.wholeRow(versions, 70, n >= 2 ? 3 : 2)));
            Check.holds("list on 0 behind " + n, Look.row(volume, 0, 70).equals(Look.wholeRow(versions, 70, 2)));
            Check.same("all writes", volume.count(0) + volume.count(1), 8 + n);
            Check.same("not to be cut any more", volume.write(50, 3, 10), 0);
            Check.refused("start when on", Check.STATE, volume, () -> volume.start());
        }
    }

    private static void startWithoutJournal() {
        GuardVolume volume = new GuardVolume();
        volume.plan(0, 1, 0, 0);
        volume.write(2, 0, 1);
        volume.cutAfter(0);
        Check.same("a finding, though not mended", volume.scrub(64), 1);
        Check.same("off", volume.count(4), 0);
        Check.same("nothing noted", volume.count(5), -1);
        Check.same("nothing to put", volume.start(), 0);
        Check.same("on", volume.count(4), 1);
        Check.same("mended now", volume.scrub(64), 1);
        Check.same("good", volume.verdict(0, 2), 0);
    }

    /** The journal is in the memory: what happens to the drives' rows meanwhile does not touch it. */
    private static void startKeepsTheNotedWords() {
        GuardVolume volume = new GuardVolume();
        volume.write(9, 0, 1);
        volume.write(9, 1, 2);
        volume.plan(0, 1, 2, 5);
        volume.cutAfter(1);
        volume.write(9, 2, 3);
        Check.same("torn", volume.verdict(0, 9), 1);
        volume.plan(1, 2, 0, 0);
        Check.same("put anew, once dropped", volume.start(), 4);
        Check.same("word of copy 0", volume.read(9, 2), 3);
        Check.same("code", volume.code(), 0);
        Check.same("copy 1 was dropped", volume.verdict(1, 9), 4);
        Check.same("nothing is noted then", volume.count(5), -1);
    }

    private static void outside() {
        GuardVolume volume = new GuardVolume();
        int[] outside = {-2, 101, Integer.MIN_VALUE, Integer.MAX_VALUE};
        for (int n : outside) {
            Check.refused("cutAfter " + n, Check.ARGUMENT, volume, () -> volume.cutAfter(n));
        }
        Check.refused("start when on", Check.STATE, volume, () -> volume.start());
        volume.cutAfter(1);
        Check.refused("cutAfter 101", Check.ARGUMENT, volume, () -> volume.cutAfter(101));
        Check.same("the cut stands", volume.write(0, 0, 0), 3);
        for (int n : outside) {
            Check.refused("off: cutAfter " + n, Check.ARGUMENT, volume, () -> volume.cutAfter(n));
        }
        for (int n = -1; n <= 100; n += 101) {
            int inside = n;
            Check.refused("off: cutAfter " + n, Check.STATE, volume, () -> volume.cutAfter(inside));
        }
    }

    private static void whatWorksWithoutPower() {
        GuardVolume volume = new GuardVolume();
        volume.cutAfter(0);
        volume.write(0, 0, 1);
        Check.refused("off: write", Check.STATE, volume, () -> volume.write(0, 0, 0));
        Check.refused("off: read", Check.STATE, volume, () -> volume.read(0, 0));
        Check.refused("off: scrub", Check.STATE, volume, () -> volume.scrub(0));
        Check.refused("off: replace", Check.STATE, volume, () -> volume.replace(0));
        Check.refused("off: rebuild", Check.STATE, volume, () -> volume.rebuild(0));
        Check.same("off: findings", volume.findings(true), 0);
        Check.same("off: expected", volume.expected(0, 0), 0);
        Check.same("off: verdict", volume.verdict(0, 0), 0);
        Check.holds("off: isRight", volume.isRight(0, 0));
        Check.same("off: count", volume.count(4), 0);
    }
}

/** The edges that promises 1, 11, 12, 13, 14 and 17 name: a test for each sentence. */
public final class EdgeTellTest {
    private static final int[] NO_DRIVES = {-1, 2, Integer.MIN_VALUE, Integer.MAX_VALUE};
    private static final int[] NO_BLOCKS = {-1, 64, 71, Integer.MIN_VALUE, Integer.MAX_VALUE};

    public static void main(String[] args) {
        powerIsOnNoPlans();
        expectedOfACopy();
        expectedUnknown();
        verdictOfACopy();
        pageOutside();
        numbersOfARow();
        tellingChangesNothing();
        writesOfDrives();
        plansThatTheyHave();
        whetherPowerIsOn();
        blockOfTheJournal();
        whereTheNextScrubBegins();
        greatestVersionOfEachPage();
        anotherWhat();
        Check.end();
    }

    private static void powerIsOnNoPlans() {
        Check.sentence("GuardVolume(): Power is on; no plans.");
        GuardVolume volume = new GuardVolume();
        Check.same("power", volume.count(4), 1);
        Check.same("plans of 0", volume.count(2), 0);
        Check.same("plans of 1", volume.count(3), 0);
        Check.refused("it is on", Check.STATE, volume, () -> volume.start());
        for (int i = 0; i < 60; i++) {
            Check.same("no write fails and no cut comes", volume.write(0, 0, i), 0);
            Check.same("copies", volume.verdict(0, 0) + volume.verdict(1, 0), 0);
        }
        Check.same("no finding", volume.scrub(64), 0);
    }

    private static void expectedOfACopy() {
        Check.sentence("The version EXPECTED of a copy ... IndexOutOfBoundsException.");
        GuardVolume volume = new GuardVolume();
        for (int i = 0; i < 60; i++) {
            volume.write(63, 0, i);
        }
        volume.write(0, 0, 1);
        for (int drive = 0; drive < 2; drive++) {
            Check.same("first block", volume.expected(drive, 0), 1);
            Check.same("last block", volume.expected(drive, 63), 60);
            Check.same("never written", volume.expected(drive, 62), 0);
        }
        for (int drive : NO_DRIVES) {
            Check.refused("drive " + drive, Check.BOUNDS, volume, () -> volume.expected(drive, 0));
        }
        for (int block : NO_BLOCKS) {
            Check.refused("block " + block, Check.BOUNDS, volume, () -> volume.expected(0, block));
            Check.refused("block " + block, Check.BOUNDS, volume, () -> volume.expected(1, block));
        }
    }

    private static void expectedUnknown() {
        Check.sentence("-1 when it is unknown.");
        GuardVolume volume = new GuardVolume();
        volume.replace(0);
        Check.same("by the other list", volume.expected(0, 63), 0);
        Check.same("by the other list", volume.expected(1, 63), 0);
        volume.replace(1);
        for (int block = 0; block < 64; block++) {
            Check.same("copy 0", volume.expected(0, block), -1);
            Check.same("copy 1", volume.expected(1, block), -1);
        }
    }

    private static void verdictOfACopy() {
        Check.sentence("The VERDICT of a copy. IndexOutOfBoundsException.");
        GuardVolume volume = new GuardVolume();
        volume.plan(1, 2, 0, 0);
        volume.write(63, 0, 1);
        volume.plan(0, 1, 0, 0);
        volume.write(0, 0, 1);
        Check.same("last block", volume.verdict(1, 63), 4);
        Check.same("its copy 0", volume.verdict(0, 63), 0);
        Check.same("first block", volume.verdict(0, 0), 4);
        Check.same("its copy 1", volume.verdict(1, 0), 0);
        for (int drive : NO_DRIVES) {
            Check.refused("drive " + drive, Check.BOUNDS, volume, () -> volume.verdict(drive, 0));
        }
        for (int block : NO_BLOCKS) {
            Check.refused("block " + block, Check.BOUNDS, volume, () -> volume.verdict(0, block));
            Check.refused("block " + block, Check.BOUNDS, volume, () -> volume.verdict(1, block));
        }
    }

    private static void pageOutside() {
        Check.sentence("Whether a page is RIGHT. IndexOutOfBoundsException when p is not 0 .. 7.");
        for (int page = 0; page < 8; page++) {
            GuardVolume volume = new GuardVolume();
            volume.plan(1, 1, 0, 0);
            volume.write(8 * page + 7, 0, 1);
            for (int p = 0; p < 8; p++) {
                Check.holds("page " + p + " on 1", volume.isRight(1, p) == (p != page));
                Check.holds("page " + p + " on 0", volume.isRight(0, p));
            }
        }
        GuardVolume volume = new GuardVolume();
        for (int p : new int[] {-1, 8, 64, 71, Integer.MIN_VALUE, Integer.MAX_VALUE}) {
            Check.refused("page " + p, Check.BOUNDS, volume, () -> volume.isRight(0, p));
            Check.refused("page " + p, Check.BOUNDS, volume, () -> volume.isRight(1, p));
        }
        for (int drive : NO_DRIVES) {
            Check.refused("drive " + drive, Check.BOUNDS, volume, () -> volume.isRight(drive, 0));
        }
    }

    private static void numbersOfARow() {
        Check.sentence("Number k (0 .. 10) of the row in a slot. IndexOutOfBoundsException.");
        GuardVolume volume = new GuardVolume();
        for (int word = 0; word < 8; word++) {
            volume.write(63, word, 100 + word);
        }
        for (int drive = 0; drive < 2; drive++) {
            for (int k = 0; k < 8; k++) {
                Check.same("word " + k, volume.raw(drive, 63, k), 100 + k);
            }
            Check.same("address", volume.raw(drive, 63, 9), 63);
            Check.same("version", volume.raw(drive, 63, 10), 8);
            Check.same("list", volume.raw(drive, 71, 7), 8);
        }
        for (int drive : NO_DRIVES) {
            Check.refused("drive " + drive, Check.BOUNDS, volume, () -> volume.raw(drive, 0, 0));
        }
        for (int slot : new int[] {-1, 72, Integer.MIN_VALUE, Integer.MAX_VALUE}) {
            Check.refused("slot " + slot, Check.BOUNDS, volume, () -> volume.raw(0, slot, 0));
            Check.refused("slot " + slot, Check.BOUNDS, volume, () -> volume.raw(1, slot, 10));
        }
        for (int k : new int[] {-1, 11, Integer.MIN_VALUE, Integer.MAX_VALUE}) {
            Check.refused("number " + k, Check.BOUNDS, volume, () -> volume.raw(0, 0, k));
            Check.refused("number " + k, Check.BOUNDS, volume, () -> volume.raw(1, 71, k));
        }
    }

    private static void tellingChangesNothing() {
        Check.sentence("Nothing is promised beyond the answers and state changes described above");
        GuardVolume volume = new GuardVolume();
        volume.plan(0, 1, 0, 0);
        volume.plan(1, 4, 1, 71);
        volume.write(9, 0, 1);
        volume.write(9, 0, 2);
        volume.scrub(10);
        volume.cutAfter(3);
        String before = Look.all(volume);
        Check.holds("looked at twice, the same", Look.all(volume).equals(before));
        Check.same("the cut is still to come", volume.write(9, 0, 3), 3);
        before = Look.all(volume);
        Check.holds("looked at twice with power off, the same", Look.all(volume).equals(before));
        Check.same("the journal is still there", volume.start(), 4);
    }

    private static void writesOfDrives() {
        Check.sentence("What = 0, 1: writes of drive 0, 1");
        GuardVolume volume = new GuardVolume();
        Check.same("none", volume.count(0) + volume.count(1), 0);
        volume.cutAfter(3);
        volume.write(0, 0, 1);
        Check.same("drive 0", volume.count(0), 1);
        Check.same("drive 1", volume.count(1), 2);
        volume.start();
        volume.plan(0, 1, 0, 0);
        volume.write(0, 0, 2);
        Check.same("with one that failed", volume.count(0), 1 + 2 + 2);
        volume.scrub(64);
        Check.same("with the scrub's", volume.count(0), 6);
        Check.same("drive 1", volume.count(1), 6);
        volume.rebuild(0);
        Check.same("with the rebuild's", volume.count(0), 6 + 64);
        Check.same("drive 1", volume.count(1), 6 + 64);
    }

    private static void plansThatTheyHave() {
        Check.sentence("2, 3: plans that they have");
        GuardVolume volume = new GuardVolume();
        for (int n = 1; n <= 8; n++) {
            volume.plan(0, n, 0, 0);
            Check.same("drive 0", volume.count(2), n);
            Check.same("drive 1", volume.count(3), 0);
        }
        volume.plan(1, 1, 0, 0);
        Check.same("drive 1", volume.count(3), 1);
        for (int i = 3; i >= 0; i--) {
            volume.write(8 * i, 0, 1);
            Check.same("drive 0", volume.count(2), 2 * i);
            Check.same("drive 1", volume.count(3), 0);
        }
    }

    private static void whetherPowerIsOn() {
        Check.sentence("4 whether power is on (1, or 0)");
        GuardVolume volume = new GuardVolume();
        Check.same("on", volume.count(4), 1);
        volume.cutAfter(0);
        Check.same("on", volume.count(4), 1);
        volume.write(0, 0, 1);
        Check.same("off", volume.count(4), 0);
        volume.start();
        Check.same("on", volume.count(4), 1);
    }

    private static void blockOfTheJournal() {
        Check.sentence("5 the block that the journal notes (-1)");
        GuardVolume volume = new GuardVolume();
        Check.same("none", volume.count(5), -1);
        for (int block : new int[] {0, 1, 62, 63}) {
            volume.cutAfter(0);
            volume.write(block, 0, 1);
            Check.same("noted", volume.count(5), block);
            volume.start();
            Check.same("none", volume.count(5), -1);
        }
    }

    private static void whereTheNextScrubBegins() {
        Check.sentence("6 where the next scrub begins");
        GuardVolume volume = new GuardVolume();
        for (int i = 0; i < 130; i++) {
            Check.same("next", volume.count(6), i % 64);
            volume.scrub(1);
        }
    }

    /** Behind a cut only drive 1's list has a version more; behind a mended list, only drive 0's. */
    private static void greatestVersionOfEachPage() {
        Check.sentence("7 the greatest version that the memory has.");
        Check.same("none", new GuardVolume().count(7), 0);
        for (int page = 0; page < 8; page++) {
            GuardVolume one = new GuardVolume();
            one.cutAfter(2);
            one.write(8 * page, 0, 1);
            Check.same("of page " + page + " on drive 1", one.count(7), 1);
            Check.same("not on drive 0", one.raw(0, 64 + page, 10), 0);
            GuardVolume zero = new GuardVolume();
            zero.plan(0, 2, 0, 0);
            zero.write(8 * page, 0, 1);
            Check.same("before", zero.count(7), 1);
            zero.scrub(64);
            Check.same("of page " + page + " on drive 0", zero.count(7), 2);
            Check.same("not on drive 1", zero.raw(1, 64 + page, 10), 1);
            zero.replace(0);
            zero.replace(1);
            Check.same("the memory is not on a drive", zero.count(7), 2);
        }
        GuardVolume versions = new GuardVolume();
        for (int i = 0; i < 100; i++) {
            versions.write(i % 8, 0, 1);
        }
        Check.same("a list's version goes beyond 60", versions.count(7), 100);
        versions.write(63, 0, 1);
        Check.same("the greatest, not the last", versions.count(7), 100);
    }

    private static void anotherWhat() {
        Check.sentence("IndexOutOfBoundsException for another what.");
        GuardVolume volume = new GuardVolume();
        for (int what : new int[] {-1, 8, Integer.MIN_VALUE, Integer.MAX_VALUE}) {
            Check.refused("count " + what, Check.BOUNDS, volume, () -> volume.count(what));
        }
        volume.cutAfter(0);
        volume.write(0, 0, 1);
        Check.refused("off: count 8", Check.BOUNDS, volume, () -> volume.count(8));
    }
}

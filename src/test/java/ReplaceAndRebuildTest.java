/** Promises 15 and 16: replace, rebuild. */
public final class ReplaceAndRebuildTest {
    public static void main(String[] args) {
        replaced();
        replacedIsReadFromTheOther();
        rebuilt(0);
        rebuilt(1);
        rebuiltWhenAllIsGood();
        oldCopyFromCopyZero();
        copyZeroFirst();
        lostBlocks();
        cut();
        scrubbedInstead();
        outside();
        Check.end();
    }

    private static GuardVolume filled() {
        GuardVolume volume = new GuardVolume();
        for (int block = 0; block < 64; block += 3) {
            volume.write(block, block % 8, 100 + block);
        }
        volume.write(3, 0, 5);
        return volume;
    }

    private static void replaced() {
        GuardVolume volume = filled();
        volume.plan(1, 4, 0, 0);
        volume.plan(0, 4, 0, 0);
        String other = Look.rows(volume, 0);
        int writes = volume.count(1);
        int greatest = volume.count(7);
        volume.scrub(9);
        volume.replace(1);
        for (int slot = 0; slot < 72; slot++) {
            Check.holds("zeros", Look.row(volume, 1, slot).equals("0 0 0 0 0 0 0 0 0 0 0"));
        }
        Check.same("plans are gone", volume.count(3), 0);
        Check.same("the other's are not", volume.count(2), 1);
        Check.holds("nor its rows", other.equals(Look.rows(volume, 0)));
        Check.same("no writes", volume.count(1), writes);
        Check.same("the memory keeps what it has", volume.count(7), greatest);
        Check.same("the scrub's place", volume.count(6), 9);
        volume.plan(1, 4, 0, 0);
        Check.same("the write has no plan any more", volume.count(3), 1);
    }

    private static void replacedIsReadFromTheOther() {
        GuardVolume volume = filled();
        volume.replace(0);
        Check.same("slot 0: whole, old", volume.verdict(0, 0), 4);
        Check.same("others: foreign", volume.verdict(0, 1), 2);
        Check.same("read", volume.read(3, 3), 103);
        Check.same("from copy 1", volume.code(), 1);
        Check.same("expected of copy 1 by the list of copy 0", volume.expected(1, 3), 2);
        volume.replace(1);
        Check.same("no list any more", volume.expected(1, 3), -1);
        Check.same("slot 0: whole, unknown", volume.verdict(1, 0), 3);
        Check.same("read", volume.read(3, 3), 0);
        Check.same("from none", volume.code(), 2);
    }

    private static void rebuilt(int drive) {
        GuardVolume volume = filled();
        volume.replace(drive);
        int writes = volume.count(drive);
        int others = volume.count(1 - drive);
        Check.same("none is lost", volume.rebuild(drive), 0);
        for (int block = 0; block < 64; block++) {
            Check.holds("copies alike", Look.row(volume, 0, block).equals(Look.row(volume, 1, block)));
            Check.same("good", volume.verdict(0, block) + volume.verdict(1, block), 0);
            Check.same("version", volume.raw(drive, block, 10), block == 3 ? 2 : block % 3 == 0 ? 1 : 0);
        }
        for (int page = 0; page < 8; page++) {
            Check.holds("lists right", volume.isRight(0, page) && volume.isRight(1, page));
        }
        Check.same("64 copies and 8 lists", volume.count(drive), writes + 72);
        Check.same("64 lists", volume.count(1 - drive), others + 64);
        Check.same("page 0 had 4 puts", volume.raw(drive, 64, 10), 4 + 1);
        Check.same("page 0 of the other has 8 more", volume.raw(1 - drive, 64, 10), 4 + 8);
        Check.same("nothing noted", volume.count(5), -1);
        Check.same("nothing to find", volume.scrub(64), 0);
    }

    private static void rebuiltWhenAllIsGood() {
        GuardVolume volume = new GuardVolume();
        volume.write(5, 5, 5);
        Check.same("none is lost", volume.rebuild(1), 0);
        Check.same("64 copies", volume.count(1), 2 + 64);
        Check.same("64 lists", volume.count(0), 2 + 64);
        Check.same("list's version", volume.raw(0, 64, 10), 1 + 8);
        Check.same("its versions stay", volume.raw(0, 64, 5), 1);
    }

    private static void oldCopyFromCopyZero() {
        GuardVolume volume = new GuardVolume();
        volume.write(5, 0, 1);
        volume.plan(1, 2, 0, 0);
        volume.plan(0, 2, 1, 70);
        volume.write(5, 0, 2);
        Check.same("copy 1 is old", volume.verdict(1, 5), 4);
        Check.same("none is lost", volume.rebuild(0), 0);
        Check.same("copy 1 is not touched", volume.raw(1, 5, 0), 1);
        Check.same("copy 0", volume.raw(0, 5, 0), 2);
        Check.same("the list on 0 was mended with it", volume.raw(0, 64, 5), 2);
        Check.same("none is lost", volume.rebuild(1), 0);
        Check.same("copy 1 from copy 0", volume.raw(1, 5, 0), 2);
        Check.same("good", volume.verdict(1, 5), 0);
    }

    /** Both lists of block 6 are lost and begin at 0, so that its newer copy 1 comes to be good with other words. */
    private static GuardVolume withTwoGoodUnlikeCopies() {
        GuardVolume volume = new GuardVolume();
        volume.plan(0, 1, 0, 0);
        volume.write(6, 0, 7);
        volume.plan(1, 1, 0, 0);
        volume.cutAfter(3);
        volume.write(3, 0, 9);
        volume.plan(0, 1, 1, 64);
        volume.start();
        volume.plan(1, 2, 0, 0);
        volume.write(6, 1, 8);
        return volume;
    }

    private static void copyZeroFirst() {
        for (int drive = 0; drive < 2; drive++) {
            GuardVolume volume = withTwoGoodUnlikeCopies();
            Check.same("both good", volume.verdict(0, 6) + volume.verdict(1, 6), 0);
            Check.same("copy 0", volume.raw(0, 6, 0), 0);
            Check.same("copy 1", volume.raw(1, 6, 0), 7);
            Check.same("copy 0 is read", volume.read(6, 1), 8);
            Check.same("both good are no finding", volume.scrub(8), 0);
            volume.rebuild(drive);
            Check.same("copy 0 behind rebuild " + drive, volume.raw(0, 6, 0), 0);
            Check.same("copy 1 behind rebuild " + drive, volume.raw(1, 6, 0), drive == 1 ? 0 : 7);
        }
    }

    private static void lostBlocks() {
        GuardVolume volume = new GuardVolume();
        for (int block = 0; block < 64; block += 20) {
            volume.plan(0, 1, 0, 0);
            volume.plan(1, 2, 0, 0);
            volume.write(block, 0, 1);
        }
        int writes = volume.count(0);
        Check.same("0, 20, 40, 60", volume.rebuild(0), 4);
        Check.same("they are left out", volume.count(0), writes + 60);
        volume.replace(0);
        volume.replace(1);
        writes = volume.count(0) + volume.count(1);
        Check.same("all", volume.rebuild(1), 64);
        Check.same("nothing written", volume.count(0) + volume.count(1), writes);
    }

    private static void cut() {
        for (int n = 0; n < 100; n++) {
            GuardVolume volume = filled();
            volume.replace(0);
            int writes = volume.count(0) + volume.count(1);
            volume.cutAfter(n);
            Check.same("cut behind " + n, volume.rebuild(0), -1);
            Check.same("off", volume.count(4), 0);
            Check.same("writes", volume.count(0) + volume.count(1), writes + n);
            Check.same("nothing is noted", volume.count(5), -1);
            Check.same("nothing to put anew", volume.start(), 0);
            Check.same("from the start again", volume.rebuild(0), 0);
            Check.same("all good", volume.scrub(64), 0);
        }
        GuardVolume volume = filled();
        volume.rebuild(0);
        volume.cutAfter(100);
        Check.same("128 writes are too many", volume.rebuild(0), -1);
        volume.start();
        GuardVolume lost = new GuardVolume();
        lost.replace(0);
        lost.replace(1);
        lost.cutAfter(0);
        Check.same("without a write there is no cut", lost.rebuild(0), 64);
        Check.same("on", lost.count(4), 1);
    }

    private static void scrubbedInstead() {
        GuardVolume volume = filled();
        volume.replace(1);
        Check.same("8 lists, 64 copies (that of block 0 is old)", volume.scrub(64), 72);
        Check.same("nothing more", volume.scrub(64), 0);
        Check.same("address 0 was there", volume.finding(1, 3), 0);
    }

    private static void outside() {
        GuardVolume volume = new GuardVolume();
        for (int drive : new int[] {-1, 2, Integer.MIN_VALUE, Integer.MAX_VALUE}) {
            Check.refused("replace " + drive, Check.BOUNDS, volume, () -> volume.replace(drive));
            Check.refused("rebuild " + drive, Check.BOUNDS, volume, () -> volume.rebuild(drive));
        }
        volume.cutAfter(0);
        volume.write(0, 0, 0);
        Check.refused("off: replace 2", Check.BOUNDS, volume, () -> volume.replace(2));
        Check.refused("off: rebuild -1", Check.BOUNDS, volume, () -> volume.rebuild(-1));
        Check.refused("off: replace", Check.STATE, volume, () -> volume.replace(1));
        Check.refused("off: rebuild", Check.STATE, volume, () -> volume.rebuild(1));
    }
}

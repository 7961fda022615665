/** The edges that promises 15 and 16 name: a test for each sentence. */
public final class EdgeDriveTest {
    private static final String ZEROS = "0 0 0 0 0 0 0 0 0 0 0";
    private static final int[] NO_DRIVES = {-1, 2, Integer.MIN_VALUE, Integer.MAX_VALUE};

    public static void main(String[] args) {
        allNumbersAre0();
        plansAreGone();
        replacingIsNothingElse();
        zerosOfBlock0();
        replaceRefused();
        eachBlockInOrder();
        copyZeroElseCopyOne();
        listOfTheOtherCopy();
        listOfTheOtherCopyWhenRight();
        howManyHadNoneGood();
        noneGoodIsLeftAlone();
        cutStopsTheRebuild();
        notCutWhenAllIsDone();
        highestVersion();
        rebuildRefused();
        Check.end();
    }

    private static int writes(GuardVolume volume) {
        return volume.count(0) + volume.count(1);
    }

    private static GuardVolume written() {
        GuardVolume volume = new GuardVolume();
        for (int block = 0; block < 64; block++) {
            volume.write(block, block % 8, 100 + block);
        }
        return volume;
    }

    private static String due(int block) {
        int[] words = new int[8];
        words[block % 8] = 100 + block;
        return Look.wholeRow(words, block, 1);
    }

    private static void allNumbersAre0() {
        Check.sentence("A drive is replaced: all numbers in all slots are 0");
        for (int drive = 0; drive < 2; drive++) {
            GuardVolume volume = written();
            String other = Look.rows(volume, 1 - drive);
            volume.replace(drive);
            for (int slot = 0; slot < 72; slot++) {
                Check.row("slot " + slot, volume, drive, slot, ZEROS);
            }
            Check.holds("the other drive stays", other.equals(Look.rows(volume, 1 - drive)));
        }
    }

    private static void plansAreGone() {
        Check.sentence("plans are gone.");
        for (int drive = 0; drive < 2; drive++) {
            GuardVolume volume = new GuardVolume();
            for (int n = 1; n <= 8; n++) {
                volume.plan(drive, n, 0, 0);
            }
            volume.plan(1 - drive, 9, 0, 0);
            volume.replace(drive);
            Check.same("plans", volume.count(2 + drive), 0);
            Check.same("the other drive's stay", volume.count(3 - drive), 1);
            volume.write(0, 0, 1);
            Check.same("no write fails", volume.verdict(drive, 0), 0);
            for (int n = 1; n <= 8; n++) {
                volume.plan(drive, n, 0, 0);
            }
            Check.same("room for 8", volume.count(2 + drive), 8);
        }
    }

    private static void replacingIsNothingElse() {
        Check.sentence("replace: all numbers in all slots are 0, plans are gone.");
        GuardVolume volume = written();
        volume.plan(0, 1, 0, 0);
        volume.write(9, 0, 1);
        volume.read(9, 0);
        volume.scrub(10);
        volume.cutAfter(2);
        int[] counts = new int[8];
        for (int what = 0; what < 8; what++) {
            counts[what] = volume.count(what);
        }
        volume.replace(0);
        for (int what = 0; what < 8; what++) {
            Check.same("count " + what, volume.count(what), counts[what]);
        }
        Check.same("code", volume.code(), 1);
        Check.same("findings", volume.findings(false), 1);
        Check.same("the cut stands", volume.write(9, 0, 2), 3);
        Check.same("behind two", writes(volume), counts[0] + counts[1] + 2);
    }

    /** A row of zeros is whole, and its address is that of block 0: it is good as long as that was never written. */
    private static void zerosOfBlock0() {
        Check.sentence("all numbers in all slots are 0");
        GuardVolume volume = new GuardVolume();
        volume.replace(0);
        Check.same("block 0 is good", volume.verdict(0, 0), 0);
        Check.same("block 0 is read from it", volume.read(0, 0) + volume.code(), 0);
        for (int block = 1; block < 64; block++) {
            Check.same("others are foreign", volume.verdict(0, block), 2);
        }
        volume.replace(1);
        Check.same("without a list it is unknown", volume.verdict(0, 0), 3);
        GuardVolume old = written();
        old.replace(1);
        Check.same("once written, it is old", old.verdict(1, 0), 4);
    }

    private static void replaceRefused() {
        Check.sentence("replace: ... IndexOutOfBoundsException; IllegalStateException.");
        GuardVolume volume = written();
        volume.plan(1, 50, 0, 0);
        for (int drive : NO_DRIVES) {
            Check.refused("replace " + drive, Check.BOUNDS, volume, () -> volume.replace(drive));
        }
        volume.cutAfter(1);
        volume.write(0, 0, 1);
        Check.refused("off", Check.STATE, volume, () -> volume.replace(0));
        Check.refused("off", Check.STATE, volume, () -> volume.replace(1));
        Check.refused("off, no drive", Check.BOUNDS, volume, () -> volume.replace(2));
    }

    private static void eachBlockInOrder() {
        Check.sentence("Each block, in order, one copy of which is GOOD: copy d, of this drive, is put");
        for (int drive = 0; drive < 2; drive++) {
            for (int n = 0; n <= 100; n++) {
                GuardVolume volume = written();
                volume.replace(drive);
                volume.cutAfter(n);
                Check.same("cut behind " + n, volume.rebuild(drive), -1);
                int stored = 0;
                for (int block = 0; block < 64; block++) {
                    boolean is = Look.row(volume, drive, block).equals(due(block));
                    Check.holds("block " + block + " behind " + n, is == (copyAt(block) <= n));
                    stored += is ? 1 : 0;
                }
                Check.holds("some are not", stored < 64);
            }
        }
    }

    /** Each block has a copy and a list; the first of each page has the list of the other copy besides. */
    private static int copyAt(int block) {
        return 2 * block + (block + 7) / 8 + 1;
    }

    private static void copyZeroElseCopyOne() {
        Check.sentence("with the words and version of copy 0, if it is good, else of copy 1");
        for (int drive = 0; drive < 2; drive++) {
            for (int bad = 0; bad < 2; bad++) {
                GuardVolume volume = written();
                volume.plan(bad, bad == 0 ? 1 : 2, 0, 0);
                volume.write(63, 7, 7);
                Check.same("one is old", volume.verdict(bad, 63), 4);
                Check.same("none is lost", volume.rebuild(drive), 0);
                String due = Look.wholeRow(new int[] {0, 0, 0, 0, 0, 0, 0, 7}, 63, 2);
                Check.row("the good one", volume, 1 - bad, 63, due);
                Check.row("the old one", volume, bad, 63, drive == bad ? due : due(63));
            }
        }
    }

    private static void listOfTheOtherCopy() {
        Check.sentence("then the list of the other copy is made (its version being the same) and stored, if that is "
                + "not right");
        for (int drive = 0; drive < 2; drive++) {
            GuardVolume volume = written();
            volume.replace(drive);
            Check.same("none is lost", volume.rebuild(drive), 0);
            int[] versions = {1, 1, 1, 1, 1, 1, 1, 1};
            for (int page = 0; page < 8; page++) {
                Check.row("its page, made once", volume, drive, 64 + page, Look.wholeRow(versions, 64 + page, 9));
                Check.row("the other drive's page, made 8 times", volume, 1 - drive, 64 + page,
                        Look.wholeRow(versions, 64 + page, 16));
            }
            for (int block = 0; block < 64; block++) {
                Check.row("copy", volume, drive, block, due(block));
                Check.same("good", volume.verdict(0, block) + volume.verdict(1, block), 0);
            }
            Check.same("writes", volume.count(drive), 128 + 64 + 8);
        }
    }

    private static void listOfTheOtherCopyWhenRight() {
        Check.sentence("and stored, if that is not right");
        for (int drive = 0; drive < 2; drive++) {
            GuardVolume volume = written();
            String pages = "";
            for (int page = 0; page < 8; page++) {
                pages += Look.row(volume, drive, 64 + page);
            }
            volume.rebuild(drive);
            Check.same("copies alone", volume.count(drive), 128 + 64);
            Check.same("lists alone", volume.count(1 - drive), 128 + 64);
            for (int page = 0; page < 8; page++) {
                Check.holds("its pages stay", pages.contains(Look.row(volume, drive, 64 + page)));
            }
        }
        GuardVolume spoilt = written();
        spoilt.plan(0, 1, 1, 64);
        spoilt.plan(0, 2, 0, 0);
        Check.same("none is lost", spoilt.rebuild(0), 0);
        Check.same("wrong by the put itself, made at block 0 and 1", spoilt.raw(0, 64, 10), 10);
        Check.holds("right", spoilt.isRight(0, 0));
        Check.same("copy 0 of block 0 went to the page's slot", spoilt.count(0), 128 + 64 + 2);
    }

    private static void lose(GuardVolume volume, int page, int by) {
        volume.plan(0, 1, 1, 64 + page);
        volume.plan(1, 2, 1, 64 + page);
        volume.write(by, 0, 1);
    }

    private static void howManyHadNoneGood() {
        Check.sentence("how many blocks had none good.");
        GuardVolume none = new GuardVolume();
        Check.same("0", none.rebuild(0), 0);
        for (int block = 0; block < 64; block += 63) {
            GuardVolume one = new GuardVolume();
            one.plan(0, 1, 0, 0);
            one.plan(1, 2, 0, 0);
            one.write(block, 0, 1);
            Check.same("1", one.rebuild(1), 1);
        }
        GuardVolume page = new GuardVolume();
        lose(page, 7, 0);
        Check.same("a page, and block 0", page.rebuild(0), 9);
        GuardVolume all = new GuardVolume();
        all.replace(0);
        all.replace(1);
        Check.same("64", all.rebuild(0), 64);
        Check.same("64", all.rebuild(1), 64);
    }

    private static void noneGoodIsLeftAlone() {
        Check.sentence("Each block, in order, one copy of which is GOOD");
        GuardVolume volume = new GuardVolume();
        volume.replace(0);
        volume.replace(1);
        volume.cutAfter(0);
        String before = Look.all(volume);
        Check.same("all are lost", volume.rebuild(0), 64);
        Check.holds("nothing is written, and no cut comes", Look.all(volume).equals(before));
    }

    private static void cutStopsTheRebuild() {
        Check.sentence("(When power is cut, it stops: -1.)");
        for (int drive = 0; drive < 2; drive++) {
            for (int n = 0; n <= 100; n++) {
                GuardVolume volume = new GuardVolume();
                volume.replace(drive);
                volume.cutAfter(n);
                Check.same("cut behind " + n, volume.rebuild(drive), -1);
                Check.same("power", volume.count(4), 0);
                Check.same("writes", writes(volume), n);
                Check.same("nothing is noted", volume.count(5), -1);
                Check.same("so nothing is put anew", volume.start(), 0);
            }
        }
    }

    /** Six pages and six blocks are lost, so that 10 blocks are left: fewer writes than a cut can be behind. */
    private static void notCutWhenAllIsDone() {
        Check.sentence("When power is cut, it stops");
        for (int n = 18; n <= 22; n++) {
            GuardVolume volume = new GuardVolume();
            for (int page = 2; page < 8; page++) {
                lose(volume, page, page);
            }
            int writes = writes(volume);
            volume.cutAfter(n);
            Check.same("behind " + n, volume.rebuild(1), n < 20 ? -1 : 54);
            Check.same("power", volume.count(4), n < 20 ? 0 : 1);
            Check.same("writes", writes(volume), writes + Math.min(n, 20));
        }
    }

    private static void highestVersion() {
        Check.sentence("copy d, of this drive, is put with the words and version");
        GuardVolume volume = new GuardVolume();
        for (int i = 1; i <= 60; i++) {
            volume.write(63, 0, i);
        }
        volume.replace(0);
        Check.same("version 60 may be put", volume.rebuild(0), 0);
        Check.row("copy 0", volume, 0, 63, Look.row(volume, 1, 63));
        Check.same("version", volume.raw(0, 63, 10), 60);
        Check.same("read", volume.read(63, 0), 60);
    }

    private static void rebuildRefused() {
        Check.sentence("rebuild: ... IndexOutOfBoundsException; IllegalStateException.");
        GuardVolume volume = written();
        for (int drive : NO_DRIVES) {
            Check.refused("rebuild " + drive, Check.BOUNDS, volume, () -> volume.rebuild(drive));
        }
        volume.cutAfter(1);
        volume.write(0, 0, 1);
        Check.refused("off", Check.STATE, volume, () -> volume.rebuild(0));
        Check.refused("off", Check.STATE, volume, () -> volume.rebuild(1));
        Check.refused("off, no drive", Check.BOUNDS, volume, () -> volume.rebuild(2));
    }
}

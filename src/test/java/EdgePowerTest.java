/** The edges that promises 6 and 7 and POWER name: a test for each sentence. */
public final class EdgePowerTest {
    public static void main(String[] args) {
        behindTheNextNWrites();
        ofBothDrivesTogether();
        insteadOfTheOneBehind();
        onlyWritesCount();
        itIsNotToBeCut();
        nOutside();
        cutWhenOff();
        notDoneFurther();
        memoryKeeps();
        putAnew();
        putAnewWithTheSameWordsAndVersion();
        nothingToPutAnew();
        howManyWritesWereDone();
        notToBeCutAnyMore();
        startWhenOn();
        whatIsToldNeedsNoPower();
        Check.end();
    }

    private static int writes(GuardVolume volume) {
        return volume.count(0) + volume.count(1);
    }

    private static GuardVolume cutWrite(int block, int n) {
        GuardVolume volume = new GuardVolume();
        volume.write(block, 0, 1);
        volume.cutAfter(n);
        Check.same("cut", volume.write(block, 1, 2), 3);
        return volume;
    }

    private static void behindTheNextNWrites() {
        Check.sentence("Power is to be CUT behind the next n writes (0 .. 100)");
        for (int n = 0; n <= 100; n++) {
            GuardVolume volume = new GuardVolume();
            volume.write(0, 0, 1);
            volume.cutAfter(n);
            for (int i = 0; i < n / 4; i++) {
                Check.same("write " + i + " before the cut behind " + n, volume.write(i, 0, 1), 0);
                Check.same("power", volume.count(4), 1);
            }
            Check.same("the write with the cut behind " + n, volume.write(63, 0, 1), 3);
            Check.same("power", volume.count(4), 0);
            Check.same("writes", writes(volume), 4 + n);
        }
    }

    private static void ofBothDrivesTogether() {
        Check.sentence("it may be CUT behind the next n writes (of both drives together)");
        GuardVolume volume = cutWrite(9, 3);
        Check.same("of drive 0", volume.count(0), 2 + 1);
        Check.same("of drive 1", volume.count(1), 2 + 2);
        GuardVolume scrubbed = new GuardVolume();
        for (int block = 0; block < 4; block++) {
            scrubbed.plan(block % 2, block % 2 == 0 ? 1 : 2, 0, 0);
            scrubbed.write(8 * block, 0, 1);
        }
        scrubbed.cutAfter(3);
        Check.same("the fourth is told, not mended", scrubbed.scrub(64), 4);
        Check.same("power", scrubbed.count(4), 0);
        Check.same("two on drive 0", scrubbed.count(0), 8 + 2);
        Check.same("one on drive 1", scrubbed.count(1), 8 + 1);
    }

    private static void insteadOfTheOneBehind() {
        Check.sentence("instead of the one behind these it goes off");
        GuardVolume volume = new GuardVolume();
        volume.cutAfter(0);
        Check.same("not yet", volume.count(4), 1);
        Check.same("no write", volume.read(0, 0), 0);
        Check.same("no write", volume.scrub(64), 0);
        Check.same("still on", volume.count(4), 1);
        Check.same("the first write", volume.write(0, 0, 1), 3);
        Check.same("off", volume.count(4), 0);
        Check.same("it was not done", writes(volume), 0);
    }

    private static void onlyWritesCount() {
        Check.sentence("behind the next n writes");
        GuardVolume volume = new GuardVolume();
        volume.cutAfter(4);
        for (int i = 0; i < 8; i++) {
            volume.read(i, 0);
            volume.plan(0, 10 + i, 0, 0);
            volume.findings(true);
        }
        volume.replace(0);
        volume.replace(1);
        Check.same("findings that nothing can mend", volume.scrub(64), 64);
        Check.same("blocks that nothing can mend", volume.rebuild(0), 64);
        Check.same("no write", volume.write(0, 0, 1), 2);
        Check.same("still on", volume.count(4), 1);
        GuardVolume calm = new GuardVolume();
        calm.cutAfter(4);
        for (int i = 0; i < 100; i++) {
            calm.read(i % 64, i % 8);
            calm.scrub(i % 65);
        }
        Check.same("reads and a scrub without findings are no writes", calm.write(0, 0, 1), 0);
        Check.same("then it is cut", calm.write(0, 0, 1), 3);
    }

    private static void itIsNotToBeCut() {
        Check.sentence("-1: it is not.");
        GuardVolume volume = new GuardVolume();
        volume.cutAfter(-1);
        Check.same("none was to be", volume.write(1, 0, 1), 0);
        volume.cutAfter(0);
        volume.cutAfter(-1);
        for (int i = 0; i < 50; i++) {
            Check.same("taken back", volume.write(1, 0, i), 0);
        }
        volume.cutAfter(3);
        volume.cutAfter(8);
        Check.same("the last word holds", volume.write(2, 0, 1), 0);
        volume.cutAfter(1);
        Check.same("the last word holds", volume.write(2, 0, 1), 3);
        Check.same("writes", writes(volume), 4 + 200 + 4 + 1);
    }

    private static void nOutside() {
        Check.sentence("cutAfter: ... IllegalArgumentException");
        GuardVolume volume = new GuardVolume();
        volume.cutAfter(1);
        for (int n : new int[] {-2, 101, Integer.MIN_VALUE, Integer.MAX_VALUE}) {
            Check.refused("cutAfter " + n, Check.ARGUMENT, volume, () -> volume.cutAfter(n));
        }
        Check.same("the cut stands as it was", volume.write(0, 0, 1), 3);
        Check.same("behind one", writes(volume), 1);
    }

    private static void cutWhenOff() {
        Check.sentence("IllegalStateException: power is off.");
        GuardVolume volume = cutWrite(0, 2);
        for (int n : new int[] {-1, 0, 1, 100}) {
            Check.refused("cutAfter " + n, Check.STATE, volume, () -> volume.cutAfter(n));
        }
        for (int n : new int[] {-2, 101}) {
            Check.refused("cutAfter " + n, Check.ARGUMENT, volume, () -> volume.cutAfter(n));
        }
        Check.refused("write", Check.STATE, volume, () -> volume.write(0, 0, 1));
        Check.refused("read", Check.STATE, volume, () -> volume.read(0, 0));
        Check.refused("scrub", Check.STATE, volume, () -> volume.scrub(0));
        Check.refused("replace", Check.STATE, volume, () -> volume.replace(0));
        Check.refused("rebuild", Check.STATE, volume, () -> volume.rebuild(0));
    }

    private static void notDoneFurther() {
        Check.sentence("what was being done is not done further");
        GuardVolume write = cutWrite(9, 0);
        Check.row("copy 0 as before", write, 0, 9, Look.row(write, 1, 9));
        Check.same("writes", writes(write), 4);
        GuardVolume scrub = new GuardVolume();
        scrub.replace(0);
        scrub.cutAfter(1);
        Check.same("a list, block 1's copy", scrub.scrub(64), 2);
        Check.same("one write", writes(scrub), 1);
        Check.same("it stopped at 1", scrub.count(6), 1);
        GuardVolume rebuild = new GuardVolume();
        rebuild.replace(0);
        rebuild.cutAfter(1);
        Check.same("rebuild", rebuild.rebuild(0), -1);
        Check.same("one write", writes(rebuild), 1);
        Check.row("the second copy is not stored", rebuild, 0, 1, "0 0 0 0 0 0 0 0 0 0 0");
    }

    private static void memoryKeeps() {
        Check.sentence("the memory keeps what it has.");
        for (int n = 0; n < 4; n++) {
            GuardVolume volume = cutWrite(20, n);
            Check.same("the journal behind " + n, volume.count(5), 20);
            Check.same("the versions behind " + n, volume.count(7), n < 2 ? 1 : 2);
            Check.holds("of drive 1 behind " + n, volume.isRight(1, 2));
            Check.holds("of drive 0 behind " + n, volume.isRight(0, 2));
        }
        GuardVolume scrub = new GuardVolume();
        scrub.plan(1, 1, 0, 0);
        scrub.write(20, 0, 1);
        scrub.cutAfter(0);
        scrub.scrub(64);
        Check.same("no version for a list that was not stored", scrub.count(7), 1);
        Check.holds("the old page is as wrong as before", !scrub.isRight(1, 2));
    }

    private static void putAnew() {
        Check.sentence("When it comes back, if the journal notes a block, that is put anew");
        for (int block = 0; block < 64; block += 9) {
            for (int n = 0; n < 4; n++) {
                GuardVolume volume = cutWrite(block, n);
                volume.start();
                Check.same("nothing is noted any more", volume.count(5), -1);
                for (int drive = 0; drive < 2; drive++) {
                    Check.row("copy " + drive, volume, drive, block,
                            Look.wholeRow(new int[] {1, 2, 0, 0, 0, 0, 0, 0}, block, 2));
                    Check.same("verdict", volume.verdict(drive, block), 0);
                    Check.holds("page", volume.isRight(drive, block / 8));
                }
                Check.same("list on 0", volume.raw(0, 64 + block / 8, 10), 2);
                Check.same("list on 1", volume.raw(1, 64 + block / 8, 10), n < 2 ? 2 : 3);
            }
        }
    }

    /** The copies are ruined meanwhile; what is put comes from the memory alone. */
    private static void putAnewWithTheSameWordsAndVersion() {
        Check.sentence("(with the same words and version)");
        GuardVolume volume = new GuardVolume();
        for (int word = 0; word < 8; word++) {
            volume.write(9, word, 10 + word);
        }
        volume.plan(0, 1, 2, 3);
        volume.plan(1, 2, 2, 3);
        volume.cutAfter(3);
        volume.write(9, 7, 99);
        Check.same("copy 0", volume.verdict(0, 9), 4);
        volume.plan(0, 1, 1, 65);
        volume.start();
        String due = Look.wholeRow(new int[] {10, 11, 12, 13, 14, 15, 16, 99}, 9, 9);
        Check.row("copy 1", volume, 1, 9, due);
        Check.same("version", volume.expected(0, 9), 9);
        volume.cutAfter(1);
        volume.write(9, 0, 5);
        volume.start();
        due = Look.wholeRow(new int[] {5, 11, 12, 13, 14, 15, 16, 99}, 9, 10);
        Check.row("copy 0, by a second cut write", volume, 0, 9, due);
        Check.row("copy 1, by a second cut write", volume, 1, 9, due);
    }

    private static void nothingToPutAnew() {
        Check.sentence("if the journal notes a block");
        GuardVolume volume = new GuardVolume();
        volume.write(5, 0, 1);
        volume.replace(0);
        volume.cutAfter(0);
        volume.rebuild(0);
        String rows = Look.rows(volume, 0) + Look.rows(volume, 1);
        Check.same("nothing is noted", volume.count(5), -1);
        Check.same("start", volume.start(), 0);
        Check.holds("rows stay", rows.equals(Look.rows(volume, 0) + Look.rows(volume, 1)));
    }

    private static void howManyWritesWereDone() {
        Check.sentence("Power comes back ...: how many writes were done.");
        for (int n = 0; n < 4; n++) {
            GuardVolume volume = cutWrite(0, n);
            int before = writes(volume);
            Check.same("behind " + n, volume.start(), 4);
            Check.same("they are counted", writes(volume), before + 4);
        }
        GuardVolume failing = cutWrite(0, 0);
        failing.plan(0, 1, 0, 0);
        failing.plan(0, 2, 0, 0);
        failing.plan(1, 1, 1, 9);
        failing.plan(1, 2, 2, 9);
        Check.same("those that fail count", failing.start(), 4);
        Check.same("plans", failing.count(2) + failing.count(3), 0);
    }

    private static void notToBeCutAnyMore() {
        Check.sentence("(and is not to be cut any more)");
        for (int n = 0; n < 4; n++) {
            GuardVolume volume = cutWrite(0, n);
            volume.start();
            for (int i = 0; i < 50; i++) {
                Check.same("write " + i, volume.write(i, 0, 1), 0);
            }
            volume.cutAfter(4);
            Check.same("a new cut", volume.write(0, 0, 1), 0);
            Check.same("a new cut", volume.write(0, 0, 1), 3);
        }
    }

    private static void startWhenOn() {
        Check.sentence("IllegalStateException when it is on.");
        GuardVolume volume = new GuardVolume();
        Check.refused("a new one", Check.STATE, volume, () -> volume.start());
        volume.cutAfter(0);
        Check.refused("still on", Check.STATE, volume, () -> volume.start());
        Check.same("the cut stands", volume.write(0, 0, 1), 3);
        volume.start();
        Check.refused("on again", Check.STATE, volume, () -> volume.start());
    }

    private static void whatIsToldNeedsNoPower() {
        Check.sentence("(What is told needs none.)");
        GuardVolume volume = new GuardVolume();
        volume.plan(0, 1, 0, 0);
        volume.write(9, 0, 1);
        volume.scrub(64);
        volume.cutAfter(2);
        volume.write(9, 0, 2);
        Check.same("code", volume.code(), 0);
        Check.same("findings", volume.findings(false), 1);
        Check.finding("finding", volume, 0, 9, 0, 4, 9);
        Check.same("expected", volume.expected(0, 9), 2);
        Check.same("verdict", volume.verdict(0, 9), 0);
        Check.holds("isRight", volume.isRight(1, 1));
        Check.same("raw", volume.raw(0, 9, 0), 2);
        int[] counts = {4, 3, 0, 0, 0, 9, 0, 2};
        for (int what = 0; what < 8; what++) {
            Check.same("count " + what, volume.count(what), counts[what]);
        }
        Check.same("findings are cleared", volume.findings(true), 1);
        Check.same("findings", volume.findings(false), 0);
    }
}

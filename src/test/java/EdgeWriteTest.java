/** The edges that promises 2, 3 and 4 name, with READING and PUTTING: a test for each sentence. */
public final class EdgeWriteTest {
    public static void main(String[] args) {
        oneWordIsChanged();
        versionAndOne();
        readingTheFirstGoodCopy();
        code2WritesNothing();
        cutMeanwhile();
        notCutWhenAllIsDone();
        journalNotesFirst();
        listIsMade();
        listVersionIsTheMemorysAndOne();
        version60();
        version60OfCopyOne();
        version60ButNoneGood();
        noSuchBlockOrWord();
        readWithCode2();
        codeAtFirst();
        codeOfTheLastRead();
        codeNotByOneThatThrew();
        Check.end();
    }

    private static void oneWordIsChanged() {
        Check.sentence("A block is read, one word of it changed, and it is PUT");
        for (int word = 0; word < 8; word++) {
            GuardVolume volume = new GuardVolume();
            int[] words = {1, 2, 3, 4, 5, 6, 7, 8};
            for (int i = 0; i < 8; i++) {
                volume.write(63, i, words[i]);
            }
            Check.same("write", volume.write(63, word, -9), 0);
            words[word] = -9;
            Check.row("copy 0", volume, 0, 63, Look.wholeRow(words, 63, 9));
            Check.row("copy 1", volume, 1, 63, Look.wholeRow(words, 63, 9));
        }
        GuardVolume same = new GuardVolume();
        same.write(5, 5, 5);
        Check.same("the same word again is a write, too", same.write(5, 5, 5), 0);
        Check.same("its version", same.raw(0, 5, 10), 2);
    }

    private static void versionAndOne() {
        Check.sentence("with the version of the copy that was read and 1");
        GuardVolume volume = new GuardVolume();
        volume.write(0, 0, 1);
        Check.same("from 0", volume.raw(0, 0, 10), 1);
        volume.plan(0, 1, 0, 0);
        volume.write(0, 0, 2);
        volume.plan(0, 1, 0, 0);
        volume.write(0, 0, 3);
        Check.same("copy 0 is two behind", volume.raw(0, 0, 10), 1);
        Check.same("copy 1", volume.raw(1, 0, 10), 3);
        volume.write(0, 1, 4);
        Check.same("copy 1 was read", volume.code(), 1);
        String due = Look.wholeRow(new int[] {3, 4, 0, 0, 0, 0, 0, 0}, 0, 4);
        Check.row("copy 0", volume, 0, 0, due);
        Check.row("copy 1", volume, 1, 0, due);
    }

    private static void readingTheFirstGoodCopy() {
        Check.sentence("READING a block: copy 0, if it is GOOD: CODE 0; else copy 1, if that is: code 1; else code 2.");
        for (int bad = 0; bad < 4; bad++) {
            GuardVolume volume = new GuardVolume();
            volume.write(40, 0, 1);
            if ((bad & 1) != 0) {
                volume.plan(0, 1, 0, 0);
            }
            if ((bad & 2) != 0) {
                volume.plan(1, 2, 0, 0);
            }
            volume.write(40, 0, 2);
            int due = bad == 3 ? 2 : bad & 1;
            Check.same("read", volume.read(40, 0), bad == 3 ? 0 : 2);
            Check.same("code of read", volume.code(), due);
            volume.read(41, 0);
            Check.same("write", volume.write(40, 1, 3), bad == 3 ? 2 : 0);
            Check.same("code of write", volume.code(), due);
        }
    }

    private static GuardVolume withLostBlock(int block) {
        GuardVolume volume = new GuardVolume();
        volume.write(block, 0, 7);
        volume.plan(0, 1, 0, 0);
        volume.plan(1, 2, 0, 0);
        volume.write(block, 0, 8);
        return volume;
    }

    private static void code2WritesNothing() {
        Check.sentence("2 when its code is 2 (nothing is written)");
        GuardVolume volume = withLostBlock(30);
        volume.plan(0, 1, 0, 0);
        volume.plan(1, 1, 0, 0);
        volume.read(30, 0);
        String before = Look.all(volume);
        volume.cutAfter(0);
        Check.same("write", volume.write(30, 0, 9), 2);
        Check.holds("rows, plans, journal, memory and power stay", Look.all(volume).equals(before));
        Check.same("so does the cut", volume.write(31, 0, 9), 3);
    }

    private static void cutMeanwhile() {
        Check.sentence("3 when power was cut meanwhile.");
        for (int n = 0; n <= 3; n++) {
            GuardVolume volume = new GuardVolume();
            volume.cutAfter(n);
            Check.same("cut behind " + n, volume.write(63, 7, 1), 3);
            Check.same("power", volume.count(4), 0);
            Check.same("writes", volume.count(0) + volume.count(1), n);
            Check.same("copy 0", volume.raw(0, 63, 7), n > 0 ? 1 : 0);
            Check.same("list of copy 0", volume.raw(1, 71, 7), n > 1 ? 1 : 0);
            Check.same("copy 1", volume.raw(1, 63, 7), n > 2 ? 1 : 0);
            Check.same("list of copy 1", volume.raw(0, 71, 7), 0);
        }
    }

    private static void notCutWhenAllIsDone() {
        Check.sentence("0; ... 3 when power was cut meanwhile.");
        GuardVolume volume = new GuardVolume();
        volume.cutAfter(4);
        Check.same("all four are done", volume.write(63, 7, 1), 0);
        Check.same("power", volume.count(4), 1);
        Check.same("journal", volume.count(5), -1);
        Check.same("the next one is cut", volume.write(62, 7, 1), 3);
        Check.same("before its first write", volume.count(0) + volume.count(1), 4);
    }

    private static void journalNotesFirst() {
        Check.sentence("A block is PUT: the JOURNAL (in the memory) notes it, then copy 0 is put, then copy 1, then "
                + "the journal is empty.");
        for (int block = 0; block < 64; block += 63) {
            for (int n = 0; n <= 4; n++) {
                GuardVolume volume = new GuardVolume();
                volume.cutAfter(n);
                volume.write(block, 0, 1);
                Check.same("journal behind " + n, volume.count(5), n == 4 ? -1 : block);
                Check.same("writes of drive 0 behind " + n, volume.count(0), n == 0 ? 0 : n == 4 ? 2 : 1);
                Check.same("writes of drive 1 behind " + n, volume.count(1), n < 2 ? 0 : n == 2 ? 1 : 2);
            }
        }
        Check.same("nothing is noted without a copy", noted(withLostBlock(1)), -1);
    }

    private static int noted(GuardVolume volume) {
        volume.write(1, 0, 1);
        return volume.count(5);
    }

    private static void listIsMade() {
        Check.sentence("its list is made: the words of the list's page, if it is right, else those of the other "
                + "copy's page, if that is right, else zeros; with this version for the block");
        for (int wrong = 0; wrong < 2; wrong++) {
            GuardVolume volume = new GuardVolume();
            volume.write(8, 0, 1);
            volume.write(15, 0, 1);
            Check.row("its page was right", volume, 0, 65, Look.wholeRow(new int[] {1, 0, 0, 0, 0, 0, 0, 1}, 65, 2));
            volume.plan(wrong, wrong == 0 ? 2 : 1, 1, 30);
            volume.write(9, 0, 1);
            Check.holds("a page is wrong", !volume.isRight(wrong, 1));
            volume.write(15, 0, 1);
            Check.row("from the other page", volume, wrong, 65,
                    Look.wholeRow(new int[] {1, 1, 0, 0, 0, 0, 0, 2}, 65, 4));
        }
        GuardVolume volume = new GuardVolume();
        volume.write(8, 0, 1);
        volume.write(15, 0, 1);
        volume.plan(1, 1, 0, 0);
        volume.cutAfter(2);
        volume.write(15, 0, 2);
        volume.plan(0, 1, 1, 65);
        volume.start();
        int[] versions = {0, 0, 0, 0, 0, 0, 0, 2};
        Check.row("from zeros", volume, 1, 65, Look.wholeRow(versions, 65, 4));
        Check.row("from that one", volume, 0, 65, Look.wholeRow(versions, 65, 3));
    }

    private static void listVersionIsTheMemorysAndOne() {
        Check.sentence("its version is the memory's and 1; it is stored on drive 1 - d; then the memory has that "
                + "version.");
        GuardVolume volume = new GuardVolume();
        for (int i = 1; i <= 5; i++) {
            volume.plan(1, 1, 0, 0);
            volume.write(i, 0, 1);
            Check.same("the memory goes on though it was dropped", volume.count(7), i);
        }
        Check.same("nothing was stored", volume.raw(1, 64, 10), 0);
        volume.write(6, 0, 1);
        Check.same("the memory's and 1, not the page's", volume.raw(1, 64, 10), 6);
        GuardVolume cut = new GuardVolume();
        cut.cutAfter(1);
        cut.write(0, 0, 1);
        Check.same("not before it is stored", cut.count(7), 0);
        Check.holds("so the old page is right", cut.isRight(1, 0));
    }

    private static GuardVolume withVersion(int block, int version) {
        GuardVolume volume = new GuardVolume();
        for (int i = 1; i <= version; i++) {
            Check.same("write " + i, volume.write(block, 0, i), 0);
        }
        return volume;
    }

    private static void version60() {
        Check.sentence("UnsupportedOperationException when that copy's version is 60.");
        for (int block = 0; block < 64; block += 63) {
            int last = block;
            GuardVolume volume = withVersion(block, 59);
            Check.same("from 59", volume.write(block, 0, 60), 0);
            Check.same("to 60", volume.raw(0, block, 10), 60);
            Check.refused("from 60", Check.UNSUPPORTED, volume, () -> volume.write(last, 0, 61));
            Check.refused("the same word", Check.UNSUPPORTED, volume, () -> volume.write(last, 0, 60));
            Check.same("it may be read", volume.read(block, 0), 60);
            Check.same("its neighbour may be written", volume.write(block ^ 1, 0, 1), 0);
        }
    }

    private static void version60OfCopyOne() {
        Check.sentence("when that copy's version is 60");
        GuardVolume volume = withVersion(9, 59);
        volume.plan(0, 1, 0, 0);
        volume.write(9, 0, 60);
        Check.same("copy 0 is old", volume.raw(0, 9, 10), 59);
        Check.same("code", volume.code(), 0);
        Check.refused("copy 1 would be read", Check.UNSUPPORTED, volume, () -> volume.write(9, 0, 61));
        Check.same("code stays", volume.code(), 0);
    }

    private static void version60ButNoneGood() {
        Check.sentence("2 when its code is 2 ... UnsupportedOperationException when that copy's version is 60.");
        GuardVolume volume = withVersion(33, 60);
        volume.plan(0, 1, 1, 68);
        volume.plan(1, 2, 1, 68);
        volume.write(0, 0, 1);
        Check.same("version", volume.raw(0, 33, 10), 60);
        Check.same("unknown", volume.verdict(0, 33), 3);
        Check.same("no copy is read", volume.write(33, 0, 61), 2);
        Check.same("code", volume.code(), 2);
    }

    private static void noSuchBlockOrWord() {
        Check.sentence("IndexOutOfBoundsException: there is no such ... block, ... word");
        GuardVolume volume = withLostBlock(63);
        volume.read(63, 0);
        for (int block : new int[] {-1, 64, 71, Integer.MIN_VALUE, Integer.MAX_VALUE}) {
            Check.refused("write " + block, Check.BOUNDS, volume, () -> volume.write(block, 0, 1));
            Check.refused("read " + block, Check.BOUNDS, volume, () -> volume.read(block, 0));
        }
        for (int word : new int[] {-1, 8, 10, Integer.MIN_VALUE, Integer.MAX_VALUE}) {
            Check.refused("write word " + word, Check.BOUNDS, volume, () -> volume.write(0, word, 1));
            Check.refused("read word " + word, Check.BOUNDS, volume, () -> volume.read(0, word));
        }
        Check.same("code", volume.code(), 2);
    }

    private static void readWithCode2() {
        Check.sentence("A word of a block, as it is READ; 0 with code 2.");
        GuardVolume volume = withLostBlock(30);
        Check.same("copy 0 has a word", volume.raw(0, 30, 0), 7);
        Check.same("read", volume.read(30, 0), 0);
        Check.same("code", volume.code(), 2);
        Check.same("a good one behind it", volume.read(31, 0), 0);
        Check.same("code", volume.code(), 0);
    }

    private static void codeAtFirst() {
        Check.sentence("0 at first.");
        GuardVolume volume = new GuardVolume();
        Check.same("code", volume.code(), 0);
        volume.replace(0);
        volume.replace(1);
        volume.scrub(64);
        volume.rebuild(0);
        volume.verdict(0, 0);
        Check.same("still nothing was read", volume.code(), 0);
    }

    private static void codeOfTheLastRead() {
        Check.sentence("The code of the block that was read last, by read() or write() (2 from write(), too");
        GuardVolume volume = withLostBlock(30);
        volume.plan(0, 1, 0, 0);
        volume.write(31, 0, 1);
        Check.same("write from copy 0", volume.code(), 0);
        volume.write(30, 0, 1);
        Check.same("2 from write", volume.code(), 2);
        volume.cutAfter(2);
        Check.same("cut", volume.write(31, 0, 2), 3);
        Check.same("1 from a write that was cut", volume.code(), 1);
        volume.start();
        Check.same("start reads nothing", volume.code(), 1);
        volume.read(30, 0);
        Check.same("2 from read", volume.code(), 2);
        volume.write(31, 0, 3);
        Check.same("0 from write", volume.code(), 0);
    }

    private static void codeNotByOneThatThrew() {
        Check.sentence("not by one that threw");
        GuardVolume volume = withVersion(9, 60);
        volume.plan(0, 1, 0, 0);
        volume.plan(1, 2, 0, 0);
        volume.write(30, 0, 1);
        volume.read(30, 0);
        Check.same("code", volume.code(), 2);
        Check.refused("version 60", Check.UNSUPPORTED, volume, () -> volume.write(9, 0, 1));
        Check.refused("no block", Check.BOUNDS, volume, () -> volume.write(64, 0, 1));
        Check.refused("no word", Check.BOUNDS, volume, () -> volume.read(0, 8));
        Check.same("code stays", volume.code(), 2);
        volume.cutAfter(0);
        volume.write(0, 0, 1);
        Check.same("code of the cut write", volume.code(), 0);
        Check.refused("off", Check.STATE, volume, () -> volume.read(30, 0));
        Check.refused("off", Check.STATE, volume, () -> volume.write(30, 0, 1));
        Check.same("code stays", volume.code(), 0);
    }
}

/** The edges that the document's Terms name: a test for each sentence. */
public final class EdgeTermsTest {
    private static final int[] OUTSIDE = {-1, Integer.MIN_VALUE, Integer.MAX_VALUE};

    public static void main(String[] args) {
        blocksOfWords();
        drivesSlotsAndNumbers();
        sumIsTurned();
        sumWrapsAround();
        slotOfABlock();
        pageOfABlock();
        rightByAllThree();
        rightAgainstTheMemory();
        atFirst();
        expectedByItsList();
        expectedByTheOtherList();
        expectedUnknown();
        firstVerdictThatFits();
        oldAndNewerByOne();
        unknownIsNoVersion();
        Check.end();
    }

    private static void blocksOfWords() {
        Check.sentence("BLOCKS are 0 .. 63, of 8 WORDS (ints).");
        for (int block = 0; block < 64; block++) {
            GuardVolume volume = new GuardVolume();
            for (int word = 0; word < 8; word++) {
                Check.same("write", volume.write(block, word, 1000 * block + word + 1), 0);
            }
            for (int word = 0; word < 8; word++) {
                Check.same("word " + word + " of " + block, volume.read(block, word), 1000 * block + word + 1);
                Check.same("the block behind", volume.read((block + 1) % 64, word), 0);
                Check.same("the block before", volume.read((block + 63) % 64, word), 0);
            }
        }
        GuardVolume volume = new GuardVolume();
        for (int v : new int[] {Integer.MIN_VALUE, Integer.MAX_VALUE, -1, 0}) {
            volume.write(0, 0, v);
            volume.write(63, 7, v);
            Check.same("any int, in the first place", volume.read(0, 0), v);
            Check.same("any int, in the last place", volume.read(63, 7), v);
        }
    }

    private static void drivesSlotsAndNumbers() {
        Check.sentence("There are two DRIVES, 0 and 1, each with SLOTS 0 .. 71. A slot has a ROW of 11 numbers");
        GuardVolume volume = new GuardVolume();
        volume.plan(0, 1, 1, 71);
        volume.write(1, 7, 5);
        Check.row("the last slot of drive 0", volume, 0, 71, Look.wholeRow(new int[] {0, 0, 0, 0, 0, 0, 0, 5}, 1, 1));
        Check.row("the last slot of drive 1", volume, 1, 71, Look.wholeRow(new int[8], 71, 0));
        for (int outside : OUTSIDE) {
            Check.refused("drive " + outside, Check.BOUNDS, volume, () -> volume.raw(outside, 0, 0));
            Check.refused("slot " + outside, Check.BOUNDS, volume, () -> volume.raw(0, outside, 0));
            Check.refused("number " + outside, Check.BOUNDS, volume, () -> volume.raw(0, 0, outside));
        }
        Check.refused("drive 2", Check.BOUNDS, volume, () -> volume.raw(2, 0, 0));
        Check.refused("slot 72", Check.BOUNDS, volume, () -> volume.raw(1, 72, 0));
        Check.refused("number 11", Check.BOUNDS, volume, () -> volume.raw(1, 71, 11));
    }

    /** A 1 in word k is turned 9 - k times by 5 before the sum is ready. */
    private static void sumIsTurned() {
        Check.sentence("s is turned left by 5 (32 bits)");
        int[] places = {13, 8, 3, 30, 25, 20, 15, 10};
        for (int word = 0; word < 8; word++) {
            GuardVolume volume = new GuardVolume();
            volume.write(0, word, 1);
            Check.same("sum for word " + word, volume.raw(0, 0, 8), (1 << places[word]) + 1);
            Check.same("sum of copy 1", volume.raw(1, 0, 8), (1 << places[word]) + 1);
        }
        GuardVolume volume = new GuardVolume();
        volume.write(0, 7, 0x08000000);
        Check.same("bit 27 comes to 0, then to 5", volume.raw(0, 0, 8), 32 + 1);
        volume.write(0, 7, 0x00400000);
        Check.same("bit 22 comes to 27, then to 0", volume.raw(0, 0, 8), 1 + 2);
        volume.write(0, 7, Integer.MIN_VALUE);
        Check.same("bit 31 comes to 4, then to 9", volume.raw(0, 0, 8), 512 + 3);
    }

    private static void sumWrapsAround() {
        Check.sentence("then the number is added (it wraps around).");
        GuardVolume volume = new GuardVolume();
        volume.write(0, 7, -1);
        Check.same("-1 and the version 1", volume.raw(0, 0, 8), 0);
        volume.write(63, 7, -1);
        Check.same("-1 and the address 63, turned, and the version 1", volume.raw(0, 63, 8), 62 * 32 + 1);
        volume.write(1, 6, 0x0C000000);
        volume.write(1, 7, Integer.MIN_VALUE);
        Check.same("two tops go out", volume.raw(1, 1, 8), (((1 << 5) + 1) << 5) + 2);
        Check.same("it is whole", volume.verdict(1, 1), 0);
    }

    private static void slotOfABlock() {
        Check.sentence("Slot b below 64 of each drive is for block b: COPY d of a block is the row on drive d.");
        for (int block = 0; block < 64; block++) {
            GuardVolume volume = new GuardVolume();
            volume.write(block, 3, 9);
            String due = Look.wholeRow(new int[] {0, 0, 0, 9, 0, 0, 0, 0}, block, 1);
            for (int drive = 0; drive < 2; drive++) {
                for (int slot = 0; slot < 64; slot++) {
                    Check.row("slot " + slot, volume, drive, slot,
                            slot == block ? due : Look.wholeRow(new int[8], slot, 0));
                }
            }
        }
    }

    private static void pageOfABlock() {
        Check.sentence("the words of page p on drive e are the versions that the copies on drive 1 - e of blocks "
                + "8 p .. 8 p + 7 should have");
        for (int block = 0; block < 64; block++) {
            GuardVolume volume = new GuardVolume();
            volume.write(block, 3, 9);
            int[] versions = new int[8];
            versions[block % 8] = 1;
            for (int drive = 0; drive < 2; drive++) {
                for (int page = 0; page < 8; page++) {
                    boolean its = page * 8 <= block && block <= page * 8 + 7;
                    Check.row("page " + page, volume, drive, 64 + page,
                            Look.wholeRow(its ? versions : new int[8], 64 + page, its ? 1 : 0));
                }
            }
        }
        GuardVolume half = new GuardVolume();
        half.cutAfter(2);
        half.write(8, 0, 1);
        Check.same("drive 1 has the version of copy 0", half.raw(1, 65, 0), 1);
        Check.same("drive 0 has the version of copy 1", half.raw(0, 65, 0), 0);
    }

    private static void rightByAllThree() {
        Check.sentence("A page is RIGHT, if its row is whole, its address is its slot, and its version is the one "
                + "that the MEMORY has for it.");
        for (int x = 1; x <= 10; x++) {
            GuardVolume torn = new GuardVolume();
            torn.plan(1, 1, 2, x);
            torn.write(8, 0, 1);
            Check.holds("torn behind " + x + " is not right", !torn.isRight(1, 1));
            Check.holds("the other is", torn.isRight(0, 1));
        }
        GuardVolume foreign = new GuardVolume();
        foreign.write(16, 0, 1);
        foreign.plan(1, 1, 1, 66);
        foreign.write(8, 0, 1);
        Check.row("whole, the right version, not its slot", foreign, 1, 66,
                Look.wholeRow(new int[] {1, 0, 0, 0, 0, 0, 0, 0}, 65, 1));
        Check.holds("foreign is not right", !foreign.isRight(1, 2));
        GuardVolume block = new GuardVolume();
        block.plan(0, 1, 1, 71);
        block.write(55, 0, 1);
        Check.same("a block's row", block.raw(0, 71, 9), 55);
        Check.holds("a block's row is no page", !block.isRight(0, 7));
        GuardVolume zeros = new GuardVolume();
        zeros.replace(0);
        for (int page = 0; page < 8; page++) {
            Check.holds("zeros are no page", !zeros.isRight(0, page));
        }
    }

    private static void rightAgainstTheMemory() {
        Check.sentence("its version is the one that the MEMORY has for it");
        GuardVolume volume = new GuardVolume();
        volume.plan(1, 1, 0, 0);
        volume.write(8, 0, 1);
        Check.row("whole, in its slot, a version too low", volume, 1, 65, Look.wholeRow(new int[8], 65, 0));
        Check.holds("old is not right", !volume.isRight(1, 1));
        volume.plan(1, 1, 0, 0);
        volume.write(8, 0, 1);
        Check.holds("two too low", !volume.isRight(1, 1));
        volume.write(8, 0, 1);
        Check.same("the memory went on", volume.raw(1, 65, 10), 3);
        Check.holds("stored at last", volume.isRight(1, 1));
        GuardVolume unlike = new GuardVolume();
        unlike.plan(0, 2, 0, 0);
        unlike.write(8, 0, 1);
        unlike.scrub(64);
        Check.same("page 1 on drive 0", unlike.raw(0, 65, 10), 2);
        Check.same("page 1 on drive 1", unlike.raw(1, 65, 10), 1);
        Check.holds("each has its own version", unlike.isRight(0, 1) && unlike.isRight(1, 1));
    }

    private static void atFirst() {
        Check.sentence("At first all words and versions are 0, all addresses the slots, all sums right.");
        GuardVolume volume = new GuardVolume();
        for (int drive = 0; drive < 2; drive++) {
            for (int slot = 0; slot < 72; slot++) {
                Check.row("row " + slot, volume, drive, slot, "0 0 0 0 0 0 0 0 " + slot * 32 + " " + slot + " 0");
            }
            for (int page = 0; page < 8; page++) {
                Check.holds("page " + page + " is right", volume.isRight(drive, page));
            }
            for (int block = 0; block < 64; block++) {
                Check.same("verdict of " + block, volume.verdict(drive, block), 0);
            }
        }
    }

    private static void expectedByItsList() {
        Check.sentence("The version EXPECTED of copy d of a block: by its list (on drive 1 - d), if that is right");
        for (int n = 2; n <= 3; n++) {
            GuardVolume volume = new GuardVolume();
            volume.write(63, 0, 1);
            volume.cutAfter(n);
            volume.write(63, 0, 2);
            Check.holds("both lists are right", volume.isRight(0, 7) && volume.isRight(1, 7));
            Check.same("copy 0 by drive 1", volume.expected(0, 63), 2);
            Check.same("copy 1 by drive 0", volume.expected(1, 63), 1);
            Check.same("copy 0 is good", volume.verdict(0, 63), 0);
            Check.same("copy 1", volume.verdict(1, 63), n == 2 ? 0 : 5);
        }
    }

    private static void expectedByTheOtherList() {
        Check.sentence("else by the list of the other copy (the same page on drive d), if that is");
        for (int d = 0; d < 2; d++) {
            GuardVolume volume = new GuardVolume();
            volume.write(56, 0, 1);
            volume.plan(1 - d, d == 0 ? 1 : 2, 0, 0);
            volume.write(63, 0, 2);
            Check.holds("its list is wrong", !volume.isRight(1 - d, 7));
            Check.same("first block of the page", volume.expected(d, 56), 1);
            Check.same("a block between", volume.expected(d, 57), 0);
            Check.same("last block of the page", volume.expected(d, 63), 1);
            Check.same("copy " + d + " is good by it", volume.verdict(d, 63), 0);
        }
    }

    private static GuardVolume withoutPage(int page) {
        GuardVolume volume = new GuardVolume();
        volume.plan(0, 1, 1, 64 + page);
        volume.plan(1, 2, 1, 64 + page);
        volume.write(page == 0 ? 8 : 0, 0, 1);
        return volume;
    }

    private static void expectedUnknown() {
        Check.sentence("else unknown.");
        for (int page = 0; page < 8; page++) {
            GuardVolume volume = withoutPage(page);
            for (int drive = 0; drive < 2; drive++) {
                for (int block = 0; block < 64; block++) {
                    boolean its = block / 8 == page;
                    boolean written = block == (page == 0 ? 8 : 0);
                    Check.same("expected " + block, volume.expected(drive, block), its ? -1 : written ? 1 : 0);
                    Check.same("verdict " + block, volume.verdict(drive, block), its ? 3 : written ? 4 : 0);
                }
            }
        }
    }

    private static void firstVerdictThatFits() {
        Check.sentence("The VERDICT of copy d of block b, the first that fits");
        GuardVolume volume = new GuardVolume();
        volume.plan(0, 1, 1, 20);
        volume.write(6, 0, 1);
        Check.same("foreign before newer", volume.verdict(0, 20), 2);
        volume.plan(0, 1, 2, 8);
        volume.write(20, 0, 2);
        Check.same("torn before foreign", volume.verdict(0, 20), 1);
        Check.same("its address is foreign", volume.raw(0, 20, 9), 6);
        volume.plan(0, 1, 2, 1);
        volume.write(21, 0, 2);
        Check.same("torn before old", volume.verdict(0, 21), 1);
        Check.same("its version is old", volume.raw(0, 21, 10), 0);
        volume.plan(0, 1, 1, 22);
        volume.write(23, 0, 2);
        volume.write(22, 0, 2);
        volume.write(22, 0, 3);
        volume.plan(0, 1, 1, 22);
        volume.write(17, 0, 4);
        Check.same("foreign before old", volume.verdict(0, 22), 2);
        Check.same("expected", volume.expected(0, 22), 2);
        Check.same("its version is old", volume.raw(0, 22, 10), 1);
        volume.plan(0, 1, 1, 66);
        volume.plan(1, 2, 1, 66);
        volume.write(1, 0, 1);
        Check.same("torn before unknown", volume.verdict(0, 20), 1);
        Check.same("foreign before unknown", volume.verdict(0, 22), 2);
        Check.same("unknown", volume.verdict(0, 17), 3);
        Check.same("unknown", volume.verdict(1, 17), 3);
    }

    private static void oldAndNewerByOne() {
        Check.sentence("4 OLD: its version is below that; 5 NEWER: above; else 0 GOOD.");
        for (int lost = 0; lost <= 3; lost++) {
            GuardVolume volume = new GuardVolume();
            volume.write(1, 0, 1);
            for (int i = 0; i < lost; i++) {
                volume.plan(0, 1, 0, 0);
                volume.write(1, 0, 2);
            }
            Check.same("version " + lost + " below", volume.expected(0, 1) - volume.raw(0, 1, 10), lost);
            Check.same(lost + " below", volume.verdict(0, 1), lost == 0 ? 0 : 4);
            Check.same("copy 1", volume.verdict(1, 1), 0);
        }
        for (int d = 0; d < 2; d++) {
            GuardVolume volume = new GuardVolume();
            volume.cutAfter(d == 0 ? 1 : 3);
            volume.write(1, 0, 1);
            Check.same("expected", volume.expected(d, 1), 0);
            Check.same("one above", volume.verdict(d, 1), 5);
        }
        GuardVolume volume = newerByTwo();
        Check.same("two above", volume.raw(0, 6, 10) - volume.expected(0, 6), 2);
        Check.same("two above", volume.verdict(0, 6), 5);
        Check.same("two above", volume.verdict(1, 6), 5);
    }

    /** Both lists of page 0 are lost while block 3 is put anew, and begin at zeros. */
    private static GuardVolume newerByTwo() {
        GuardVolume volume = new GuardVolume();
        volume.write(6, 0, 1);
        volume.write(6, 0, 2);
        volume.plan(1, 1, 0, 0);
        volume.cutAfter(3);
        volume.write(3, 0, 9);
        volume.plan(0, 1, 1, 64);
        volume.start();
        return volume;
    }

    private static void unknownIsNoVersion() {
        Check.sentence("3 UNKNOWN: no version is expected");
        GuardVolume volume = withoutPage(3);
        for (int block = 24; block < 32; block++) {
            Check.same("version 0 is not above unknown", volume.verdict(0, block), 3);
            Check.same("nor on drive 1", volume.verdict(1, block), 3);
        }
        Check.same("read from none", volume.read(24, 0), 0);
        Check.same("code", volume.code(), 2);
    }
}

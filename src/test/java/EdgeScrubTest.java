/** The edges that promises 8, 9 and 10 and SCRUB name: a test for each sentence. */
public final class EdgeScrubTest {
    public static void main(String[] args) {
        nBlocks();
        nOutside();
        fromWhereTheLastStopped();
        behind63Comes0();
        wrongList();
        wrongListInTheMiddleOfAPage();
        bothListsWrong();
        listBeforeCopies();
        justOneIsGood();
        noneIsGood();
        bothAreGood();
        howManyThereWere();
        cutStopsTheScrub();
        cutAtTheEdgesOfTheBlocks();
        notCutWhenAllIsDone();
        firstHundred();
        keptThenNone();
        findingOutside();
        Check.end();
    }

    private static GuardVolume withOldCopies(int... blocks) {
        GuardVolume volume = new GuardVolume();
        for (int block : blocks) {
            volume.plan(0, 1, 0, 0);
            volume.write(block, 0, 1);
        }
        return volume;
    }

    private static GuardVolume allLost() {
        GuardVolume volume = new GuardVolume();
        volume.replace(0);
        volume.replace(1);
        return volume;
    }

    private static void nBlocks() {
        Check.sentence("A SCRUB of n blocks (0 .. 64)");
        for (int n = 0; n <= 64; n++) {
            GuardVolume volume = allLost();
            Check.same("scrub " + n, volume.scrub(n), n);
            Check.same("next", volume.count(6), n % 64);
            for (int k = 0; k < n; k++) {
                Check.finding("one behind the other", volume, k, k, -1, 7, -1);
            }
        }
        GuardVolume volume = withOldCopies(0);
        String before = Look.all(volume);
        Check.same("none", volume.scrub(0), 0);
        Check.holds("nothing changes", Look.all(volume).equals(before));
    }

    private static void nOutside() {
        Check.sentence("scrub: ... IllegalArgumentException");
        GuardVolume volume = withOldCopies(0, 63);
        for (int n : new int[] {-1, 65, Integer.MIN_VALUE, Integer.MAX_VALUE}) {
            Check.refused("scrub " + n, Check.ARGUMENT, volume, () -> volume.scrub(n));
        }
        volume.cutAfter(0);
        volume.write(5, 0, 1);
        for (int n : new int[] {-1, 0, 64, 65}) {
            Check.refused("off: scrub " + n, Check.STATE, volume, () -> volume.scrub(n));
        }
    }

    private static void fromWhereTheLastStopped() {
        Check.sentence("from where the last one stopped (at first 0");
        GuardVolume volume = allLost();
        int[] steps = {1, 7, 0, 20, 1, 30};
        int next = 0;
        for (int n : steps) {
            volume.findings(true);
            volume.scrub(n);
            for (int k = 0; k < n; k++) {
                Check.same("block", volume.finding(k, 0), next + k);
            }
            next += n;
            Check.same("next", volume.count(6), next);
        }
    }

    private static void behind63Comes0() {
        Check.sentence("behind 63 comes 0");
        GuardVolume volume = allLost();
        volume.scrub(62);
        volume.findings(true);
        Check.same("62", volume.count(6), 62);
        volume.scrub(1);
        Check.same("63", volume.count(6), 63);
        volume.scrub(1);
        Check.same("0", volume.count(6), 0);
        volume.scrub(63);
        volume.findings(true);
        Check.same("from 63, once around", volume.scrub(64), 64);
        Check.same("first", volume.finding(0, 0), 63);
        for (int k = 1; k < 64; k++) {
            Check.same("then", volume.finding(k, 0), k - 1);
        }
        Check.same("next", volume.count(6), 63);
    }

    private static void wrongList() {
        Check.sentence("if the list of copy d is not right, but that of the other copy is: a FINDING (block b, drive "
                + "1 - d, sort 6, the address that the page's row has), and the list is made and stored");
        for (int d = 0; d < 2; d++) {
            GuardVolume volume = new GuardVolume();
            volume.write(56, 0, 1);
            volume.plan(1 - d, d == 0 ? 1 : 2, 1, 8);
            volume.write(63, 0, 1);
            volume.plan(1 - d, d == 0 ? 2 : 1, 1, 71);
            volume.write(40, 0, 1);
            Check.holds("wrong", !volume.isRight(1 - d, 7));
            volume.scrub(56);
            volume.findings(true);
            Check.same("at block 56", volume.scrub(1), 1);
            Check.finding("list of copy " + d, volume, 0, 56, 1 - d, 6, 40);
            int[] versions = {1, 0, 0, 0, 0, 0, 0, 1};
            Check.row("list", volume, 1 - d, 71, Look.wholeRow(versions, 71, 3));
            Check.holds("right", volume.isRight(1 - d, 7));
            Check.row("the other list stays", volume, d, 71, Look.wholeRow(versions, 71, 2));
            Check.same("no more", volume.scrub(64), 0);
        }
    }

    private static void wrongListInTheMiddleOfAPage() {
        Check.sentence("Of block b: ... (the version for block b is that of the other list)");
        for (int d = 0; d < 2; d++) {
            for (int block = 16; block < 24; block++) {
                GuardVolume volume = new GuardVolume();
                for (int i = 16; i < 24; i++) {
                    volume.write(i, 0, 1);
                }
                volume.scrub(block);
                volume.plan(1 - d, d == 0 ? 1 : 2, 0, 0);
                volume.write(block, 0, 2);
                Check.same("at block " + block, volume.scrub(1), 1);
                Check.finding("list of copy " + d, volume, 0, block, 1 - d, 6, 66);
                int[] versions = {1, 1, 1, 1, 1, 1, 1, 1};
                versions[block - 16] = 2;
                Check.row("list", volume, 1 - d, 66, Look.wholeRow(versions, 66, 10));
                Check.same("verdict", volume.verdict(d, block), 0);
            }
        }
    }

    private static void bothListsWrong() {
        Check.sentence("if the list of copy d is not right, but that of the other copy is");
        GuardVolume volume = new GuardVolume();
        volume.plan(0, 1, 1, 66);
        volume.plan(1, 2, 1, 66);
        volume.write(0, 0, 1);
        volume.scrub(16);
        volume.findings(true);
        int writes = volume.count(0) + volume.count(1);
        Check.same("eight, of sort 7 alone", volume.scrub(8), 8);
        for (int k = 0; k < 8; k++) {
            Check.finding("unknown", volume, k, 16 + k, -1, 7, -1);
        }
        Check.same("no list is made", volume.count(0) + volume.count(1), writes);
    }

    private static void listBeforeCopies() {
        Check.sentence("first for d = 0, then 1: ... Then, if just one copy is GOOD");
        GuardVolume volume = new GuardVolume();
        volume.replace(0);
        Check.same("block 0: zeros are its good row", volume.scrub(1), 1);
        Check.finding("its list", volume, 0, 0, 0, 6, 0);
        Check.same("block 1", volume.scrub(1), 1);
        Check.finding("copy 0", volume, 1, 1, 0, 2, 0);
        volume.scrub(6);
        Check.same("block 8", volume.scrub(1), 2);
        Check.finding("the list first", volume, 8, 8, 0, 6, 0);
        Check.finding("then the copy", volume, 9, 8, 0, 2, 0);
    }

    private static void justOneIsGood() {
        Check.sentence("if just one copy is GOOD: a finding (b, the other copy's drive, its verdict, the address that "
                + "its row has), and a row with the good one's words and version is stored there.");
        for (int d = 0; d < 2; d++) {
            for (int kind = 0; kind < 3; kind++) {
                GuardVolume volume = new GuardVolume();
                volume.write(63, 7, 1);
                volume.plan(d, d == 0 ? 1 : 2, kind == 1 ? 0 : kind, 3);
                if (kind == 1) {
                    volume.write(63, 0, 2);
                    volume.plan(d, d == 0 ? 1 : 2, 1, 63);
                    volume.write(62, 0, 1);
                } else {
                    volume.write(63, 0, 2);
                }
                int due = kind == 0 ? 4 : kind == 1 ? 2 : 1;
                Check.same("verdict", volume.verdict(d, 63), due);
                int address = volume.raw(d, 63, 9);
                int writes = volume.count(0) + volume.count(1);
                volume.scrub(63);
                int before = volume.findings(true);
                Check.same("one", volume.scrub(1), 1);
                Check.finding("copy " + d, volume, 0, 63, d, due, address);
                Check.row("mended", volume, d, 63, Look.wholeRow(new int[] {2, 0, 0, 0, 0, 0, 0, 1}, 63, 2));
                Check.row("as the other", volume, 1 - d, 63, Look.row(volume, d, 63));
                Check.same("a write for each finding", volume.count(0) + volume.count(1), writes + before + 1);
            }
        }
    }

    private static void noneIsGood() {
        Check.sentence("If none is: a finding (b, -1, 7, -1).");
        for (int block = 0; block < 64; block += 63) {
            GuardVolume volume = new GuardVolume();
            volume.plan(0, 1, 0, 0);
            volume.plan(1, 2, 0, 0);
            volume.write(block, 0, 1);
            String rows = Look.rows(volume, 0) + Look.rows(volume, 1);
            Check.same("one", volume.scrub(64), 1);
            Check.finding("none", volume, 0, block, -1, 7, -1);
            Check.holds("nothing is stored", rows.equals(Look.rows(volume, 0) + Look.rows(volume, 1)));
        }
    }

    private static void bothAreGood() {
        Check.sentence("how many findings there were");
        GuardVolume volume = new GuardVolume();
        volume.write(0, 0, 1);
        volume.write(63, 0, 1);
        Check.same("none", volume.scrub(64), 0);
        Check.same("none is kept", volume.findings(false), 0);
        Check.same("nothing is stored", volume.count(0) + volume.count(1), 8);
    }

    private static void howManyThereWere() {
        Check.sentence("how many findings there were (kept or not).");
        GuardVolume volume = allLost();
        Check.same("64 kept", volume.scrub(64), 64);
        Check.same("36 kept, 28 not", volume.scrub(64), 64);
        Check.same("none kept", volume.scrub(64), 64);
        Check.same("none kept", volume.scrub(1), 1);
        Check.same("none kept", volume.scrub(0), 0);
        Check.same("kept", volume.findings(false), 100);
    }

    private static void cutStopsTheScrub() {
        Check.sentence("(When power is cut, it stops; the block at which it was is the next one then.)");
        for (int n = 0; n <= 3; n++) {
            GuardVolume volume = new GuardVolume();
            volume.replace(1);
            volume.scrub(8);
            volume.findings(true);
            int writes = volume.count(0) + volume.count(1);
            volume.cutAfter(n);
            int told = n + 1;
            Check.same("told behind " + n, volume.scrub(64), told);
            Check.same("power", volume.count(4), 0);
            Check.same("next", volume.count(6), n < 2 ? 8 : 8 + n - 1);
            Check.same("kept", volume.findings(false), told);
            Check.same("writes", volume.count(0) + volume.count(1), writes + n);
            volume.start();
            volume.findings(true);
            volume.scrub(1);
            Check.same("at that block again", volume.finding(0, 0), n < 2 ? 8 : 8 + n - 1);
            Check.same("then the one behind", volume.count(6), n < 2 ? 9 : 8 + n);
        }
    }

    private static void cutAtTheEdgesOfTheBlocks() {
        Check.sentence("the block at which it was is the next one then.");
        for (int block = 0; block < 64; block += 63) {
            GuardVolume volume = withOldCopies(block);
            volume.cutAfter(0);
            Check.same("told", volume.scrub(64), 1);
            Check.same("next", volume.count(6), block);
            volume.start();
            Check.same("again", volume.scrub(1), 1);
            Check.same("mended", volume.verdict(0, block), 0);
            Check.same("next", volume.count(6), (block + 1) % 64);
        }
    }

    private static void notCutWhenAllIsDone() {
        Check.sentence("When power is cut, it stops");
        GuardVolume volume = withOldCopies(3, 60);
        volume.cutAfter(2);
        Check.same("two writes are enough", volume.scrub(64), 2);
        Check.same("power", volume.count(4), 1);
        Check.same("next", volume.count(6), 0);
        Check.same("mended", volume.verdict(0, 60), 0);
    }

    private static void firstHundred() {
        Check.sentence("Findings are kept, the first 100.");
        GuardVolume volume = allLost();
        volume.scrub(64);
        volume.scrub(35);
        Check.same("99", volume.findings(false), 99);
        Check.refused("the 100th is not there", Check.BOUNDS, volume, () -> volume.finding(99, 0));
        volume.scrub(1);
        Check.same("100", volume.findings(false), 100);
        Check.finding("the 100th", volume, 99, 35, -1, 7, -1);
        volume.scrub(1);
        Check.same("still 100", volume.findings(false), 100);
        Check.refused("no 101st", Check.BOUNDS, volume, () -> volume.finding(100, 0));
        Check.finding("the 100th stays", volume, 99, 35, -1, 7, -1);
        Check.finding("the first stays", volume, 0, 0, -1, 7, -1);
        volume.findings(true);
        volume.scrub(64);
        volume.scrub(64);
        Check.same("100 once more", volume.findings(false), 100);
        Check.finding("a new first", volume, 0, 37, -1, 7, -1);
        Check.finding("a new 100th", volume, 99, (37 + 99) % 64, -1, 7, -1);
    }

    private static void keptThenNone() {
        Check.sentence("How many findings are kept; then none is, if so wanted.");
        GuardVolume volume = new GuardVolume();
        Check.same("empty", volume.findings(false), 0);
        Check.same("empty, cleared", volume.findings(true), 0);
        volume.replace(0);
        volume.replace(1);
        volume.scrub(3);
        Check.same("not wanted", volume.findings(false), 3);
        Check.same("still there", volume.findings(true), 3);
        Check.same("none", volume.findings(true), 0);
        Check.refused("none", Check.BOUNDS, volume, () -> volume.finding(0, 0));
        volume.scrub(1);
        Check.same("a new one", volume.findings(false), 1);
        Check.finding("a new one", volume, 0, 3, -1, 7, -1);
        Check.refused("an old one", Check.BOUNDS, volume, () -> volume.finding(1, 0));
    }

    private static void findingOutside() {
        Check.sentence("Of finding k: 0 its block, 1 drive, 2 sort, 3 address. IndexOutOfBoundsException for another "
                + "k or what.");
        GuardVolume volume = withOldCopies(0, 63);
        Check.refused("none yet", Check.BOUNDS, volume, () -> volume.finding(0, 0));
        volume.scrub(64);
        Check.finding("the first", volume, 0, 0, 0, 4, 0);
        Check.finding("the last", volume, 1, 63, 0, 4, 63);
        for (int k : new int[] {-1, 2, 99, 100, Integer.MIN_VALUE, Integer.MAX_VALUE}) {
            Check.refused("finding " + k, Check.BOUNDS, volume, () -> volume.finding(k, 0));
        }
        for (int what : new int[] {-1, 4, Integer.MIN_VALUE, Integer.MAX_VALUE}) {
            Check.refused("what " + what, Check.BOUNDS, volume, () -> volume.finding(0, what));
            Check.refused("what " + what, Check.BOUNDS, volume, () -> volume.finding(1, what));
        }
    }
}

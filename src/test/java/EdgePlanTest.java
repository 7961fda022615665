/** The edges that promise 5 and PLANS name: a test for each sentence. */
public final class EdgePlanTest {
    public static void main(String[] args) {
        nthNextWrite();
        nthFromThenOn();
        nOutside();
        kinds();
        slotOfKind1();
        lengthOfKind2();
        notLookedAtFor0();
        noSuchDrive();
        thatWriteHasAPlan();
        theDriveHas8();
        dropped();
        misplaced();
        torn();
        countsAsAWrite();
        thePlanIsGone();
        eachPlanIsItsOwn();
        neededNoPower();
        Check.end();
    }

    /** Each write of block i is the drive's writes 2 i + 1 and 2 i + 2. */
    private static void nthNextWrite() {
        Check.sentence("A PLAN: the n-th next write (1 .. 50) of a drive fails");
        for (int drive = 0; drive < 2; drive++) {
            for (int n = 1; n <= 50; n++) {
                GuardVolume volume = new GuardVolume();
                volume.plan(drive, n, 0, 0);
                for (int i = 0; i < 26; i++) {
                    volume.write(i, 0, 1);
                    boolean copyFirst = drive == 0;
                    int copyAt = 2 * i + (copyFirst ? 1 : 2);
                    int listAt = 2 * i + (copyFirst ? 2 : 1);
                    Check.same("copy at " + copyAt + ", plan " + n, volume.raw(drive, i, 10), copyAt == n ? 0 : 1);
                    Check.holds("list at " + listAt + ", plan " + n, volume.isRight(drive, i / 8) == (listAt != n));
                    Check.same("plans", volume.count(2 + drive), 2 * i + 2 < n ? 1 : 0);
                }
                Check.same("the other drive has none", volume.count(3 - drive), 0);
            }
        }
    }

    private static void nthFromThenOn() {
        Check.sentence("its n-th write from then on FAILS");
        GuardVolume volume = new GuardVolume();
        volume.write(0, 0, 1);
        volume.write(1, 0, 1);
        volume.plan(0, 3, 0, 0);
        volume.write(2, 0, 1);
        volume.plan(0, 3, 0, 0);
        volume.write(3, 0, 1);
        volume.write(4, 0, 1);
        int[] due = {1, 1, 1, 0, 0};
        for (int block = 0; block < 5; block++) {
            Check.same("copy 0 of " + block, volume.raw(0, block, 10), due[block]);
        }
    }

    private static void nOutside() {
        Check.sentence("the n-th next write (1 .. 50)");
        GuardVolume volume = new GuardVolume();
        for (int n : new int[] {0, -1, 51, 100, Integer.MIN_VALUE, Integer.MAX_VALUE}) {
            for (int kind = 0; kind <= 2; kind++) {
                int of = kind;
                Check.refused("n " + n, Check.ARGUMENT, volume, () -> volume.plan(0, n, of, 5));
                Check.refused("n " + n, Check.ARGUMENT, volume, () -> volume.plan(1, n, of, 5));
            }
        }
        volume.plan(0, 1, 0, 0);
        volume.plan(0, 50, 0, 0);
        Check.same("1 and 50", volume.count(2), 2);
    }

    private static void kinds() {
        Check.sentence("by kind 0 .. 2");
        GuardVolume volume = new GuardVolume();
        for (int kind : new int[] {-1, 3, Integer.MIN_VALUE, Integer.MAX_VALUE}) {
            for (int x = 0; x <= 5; x++) {
                int with = x;
                Check.refused("kind " + kind, Check.ARGUMENT, volume, () -> volume.plan(1, 1, kind, with));
            }
        }
        for (int kind = 0; kind <= 2; kind++) {
            volume.plan(1, 1 + kind, kind, 5);
        }
        Check.same("0, 1, 2", volume.count(3), 3);
    }

    private static void slotOfKind1() {
        Check.sentence("x is a slot for kind 1");
        GuardVolume refusing = new GuardVolume();
        for (int x : new int[] {-1, 72, Integer.MIN_VALUE, Integer.MAX_VALUE}) {
            Check.refused("x " + x, Check.ARGUMENT, refusing, () -> refusing.plan(0, 1, 1, x));
        }
        for (int slot = 0; slot < 72; slot++) {
            GuardVolume volume = new GuardVolume();
            volume.plan(1, 2, 1, slot);
            volume.write(7, 0, 5);
            Check.row("slot " + slot, volume, 1, slot, Look.wholeRow(new int[] {5, 0, 0, 0, 0, 0, 0, 0}, 7, 1));
        }
    }

    private static void lengthOfKind2() {
        Check.sentence("1 .. 10 for kind 2");
        GuardVolume volume = new GuardVolume();
        for (int x : new int[] {0, -1, 11, 71, Integer.MIN_VALUE, Integer.MAX_VALUE}) {
            Check.refused("x " + x, Check.ARGUMENT, volume, () -> volume.plan(0, 1, 2, x));
        }
        volume.plan(0, 1, 2, 1);
        volume.plan(0, 2, 2, 10);
        Check.same("1 and 10", volume.count(2), 2);
    }

    private static void notLookedAtFor0() {
        Check.sentence("not looked at for 0");
        for (int x : new int[] {-1, 0, 11, 72, Integer.MIN_VALUE, Integer.MAX_VALUE}) {
            GuardVolume volume = new GuardVolume();
            volume.plan(0, 1, 0, x);
            Check.same("plans", volume.count(2), 1);
            String row = Look.row(volume, 0, 4);
            volume.write(4, 0, 1);
            Check.row("dropped with x " + x, volume, 0, 4, row);
        }
    }

    private static void noSuchDrive() {
        Check.sentence("IndexOutOfBoundsException: there is no such drive");
        GuardVolume volume = new GuardVolume();
        for (int drive : new int[] {-1, 2, Integer.MIN_VALUE, Integer.MAX_VALUE}) {
            Check.refused("drive " + drive, Check.BOUNDS, volume, () -> volume.plan(drive, 1, 0, 0));
            Check.refused("and all else wrong", Check.BOUNDS, volume, () -> volume.plan(drive, 0, 3, -1));
        }
    }

    private static void thatWriteHasAPlan() {
        Check.sentence("IllegalArgumentException (also when that write has a plan)");
        GuardVolume volume = new GuardVolume();
        volume.plan(0, 1, 0, 0);
        volume.plan(0, 3, 1, 5);
        volume.plan(0, 50, 2, 5);
        for (int n : new int[] {1, 3, 50}) {
            for (int kind = 0; kind <= 2; kind++) {
                int of = kind;
                Check.refused("write " + n, Check.ARGUMENT, volume, () -> volume.plan(0, n, of, 5));
            }
        }
        volume.plan(1, 3, 0, 0);
        Check.same("the other drive's write has none", volume.count(3), 1);
        volume.write(0, 0, 1);
        Check.refused("3 is 1 now", Check.ARGUMENT, volume, () -> volume.plan(0, 1, 0, 0));
        Check.refused("50 is 48 now", Check.ARGUMENT, volume, () -> volume.plan(0, 48, 0, 0));
        volume.plan(0, 3, 0, 0);
        volume.plan(0, 50, 0, 0);
        Check.same("3 and 50 are others now", volume.count(2), 4);
    }

    private static void theDriveHas8() {
        Check.sentence("UnsupportedOperationException when the drive has 8.");
        for (int drive = 0; drive < 2; drive++) {
            int full = drive;
            GuardVolume volume = new GuardVolume();
            for (int n = 1; n <= 8; n++) {
                Check.same("plans", volume.count(2 + drive), n - 1);
                volume.plan(drive, n == 8 ? 50 : n, n % 3, 5);
            }
            Check.refused("a ninth", Check.UNSUPPORTED, volume, () -> volume.plan(full, 8, 0, 0));
            Check.refused("a ninth", Check.UNSUPPORTED, volume, () -> volume.plan(full, 49, 2, 10));
            Check.refused("of a planned write", Check.ARGUMENT, volume, () -> volume.plan(full, 50, 0, 0));
            Check.refused("of no kind", Check.ARGUMENT, volume, () -> volume.plan(full, 8, 3, 0));
            volume.plan(1 - drive, 8, 0, 0);
            Check.same("the other drive has 1", volume.count(3 - drive), 1);
            volume.cutAfter(drive == 0 ? 1 : 2);
            volume.write(63, 0, 1);
            Check.same("one is gone", volume.count(2 + drive), 7);
            volume.plan(drive, 50, 0, 0);
            Check.same("room for one", volume.count(2 + drive), 8);
            Check.refused("a ninth", Check.UNSUPPORTED, volume, () -> volume.plan(full, 48, 0, 0));
        }
    }

    private static void dropped() {
        Check.sentence("0 DROPPED: nothing is stored");
        GuardVolume volume = new GuardVolume();
        volume.plan(1, 1, 0, 0);
        volume.plan(1, 2, 0, 0);
        String rows = Look.rows(volume, 1);
        Check.same("and no one is told", volume.write(20, 4, 9), 0);
        Check.holds("drive 1 stays", rows.equals(Look.rows(volume, 1)));
    }

    private static void misplaced() {
        Check.sentence("1 MISPLACED: it is stored in another slot instead");
        GuardVolume volume = new GuardVolume();
        volume.write(20, 4, 9);
        volume.plan(0, 1, 1, 63);
        String before = Look.row(volume, 0, 20);
        String other = Look.row(volume, 1, 63);
        volume.write(20, 4, 10);
        Check.row("its slot stays", volume, 0, 20, before);
        Check.row("there it is", volume, 0, 63, Look.row(volume, 1, 20));
        Check.row("not on the other drive", volume, 1, 63, other);
        Check.same("its address is not the slot's", volume.raw(0, 63, 9), 20);
    }

    /** The row that stands in the slot differs in all 11 numbers, so that each that is stored can be seen. */
    private static void torn() {
        Check.sentence("2 TORN: only the first x numbers are stored, the others in the slot stay.");
        for (int x = 1; x <= 10; x++) {
            GuardVolume volume = new GuardVolume();
            for (int word = 0; word < 8; word++) {
                volume.write(8, word, 10 + word);
                volume.write(20, word, 30 + word);
            }
            volume.write(8, 0, 50);
            volume.plan(0, 1, 1, 20);
            volume.write(8, 1, 51);
            int[] before = numbers(volume, 0, 20);
            volume.plan(0, 1, 2, x);
            volume.write(20, 2, 52);
            int[] whole = numbers(volume, 1, 20);
            for (int k = 0; k < 11; k++) {
                Check.holds("unlike in " + k, before[k] != whole[k]);
                Check.same("number " + k + " of " + x, volume.raw(0, 20, k), k < x ? whole[k] : before[k]);
            }
            Check.same("torn", volume.verdict(0, 20), 1);
        }
    }

    private static int[] numbers(GuardVolume volume, int drive, int slot) {
        int[] numbers = new int[11];
        for (int k = 0; k < 11; k++) {
            numbers[k] = volume.raw(drive, slot, k);
        }
        return numbers;
    }

    private static void countsAsAWrite() {
        Check.sentence("It counts as a write, for the cut, too");
        for (int kind = 0; kind <= 2; kind++) {
            GuardVolume volume = new GuardVolume();
            volume.plan(0, 1, kind, 5);
            volume.plan(1, 1, kind, 5);
            volume.cutAfter(2);
            Check.same("cut behind two that failed", volume.write(33, 0, 1), 3);
            Check.same("writes of 0", volume.count(0), 1);
            Check.same("writes of 1", volume.count(1), 1);
            Check.same("the third was not done", volume.raw(1, 33, 0), 0);
            Check.same("four more", volume.start(), 4);
            Check.same("writes of both", volume.count(0) + volume.count(1), 6);
        }
    }

    private static void thePlanIsGone() {
        Check.sentence("the plan is gone then.");
        for (int kind = 0; kind <= 2; kind++) {
            GuardVolume volume = new GuardVolume();
            volume.plan(0, 1, kind, 5);
            volume.cutAfter(0);
            volume.write(33, 0, 1);
            Check.same("not before", volume.count(2), 1);
            volume.start();
            Check.same("gone", volume.count(2), 0);
            volume.write(33, 0, 2);
            Check.same("the next is stored", volume.verdict(0, 33), 0);
        }
    }

    /** Whichever is due first, and in whatever order they were made, the others stay what they are. */
    private static void eachPlanIsItsOwn() {
        Check.sentence("PLANS of a drive");
        int[][] orders = {{0, 1, 2, 3}, {3, 2, 1, 0}, {2, 0, 3, 1}, {1, 3, 0, 2}};
        int[][] plans = {{1, 0, 0}, {3, 1, 30}, {5, 2, 1}, {7, 1, 31}};
        for (int[] order : orders) {
            GuardVolume volume = new GuardVolume();
            for (int i : order) {
                volume.plan(0, plans[i][0], plans[i][1], plans[i][2]);
            }
            for (int block = 0; block < 4; block++) {
                volume.write(8 * block, 0, 1);
                Check.same("plans", volume.count(2), 3 - block);
            }
            Check.row("the first is dropped", volume, 0, 0, Look.wholeRow(new int[8], 0, 0));
            Check.row("the second is misplaced", volume, 0, 30, Look.row(volume, 1, 8));
            Check.row("the third is torn", volume, 0, 16, "1 0 0 0 0 0 0 0 512 16 0");
            Check.row("the fourth is misplaced", volume, 0, 31, Look.row(volume, 1, 24));
        }
    }

    private static void neededNoPower() {
        Check.sentence("void plan(...) throws IndexOutOfBoundsException, IllegalArgumentException, "
                + "UnsupportedOperationException");
        GuardVolume volume = new GuardVolume();
        volume.cutAfter(0);
        volume.write(33, 0, 1);
        volume.plan(0, 1, 0, 0);
        Check.same("no power is asked for", volume.count(2), 1);
        volume.start();
        Check.same("the first write behind it failed", volume.verdict(0, 33), 4);
    }
}

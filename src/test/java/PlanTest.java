/** Promise 5: plan. */
public final class PlanTest {
    public static void main(String[] args) {
        dropped();
        misplaced();
        misplacedInItsOwnSlot();
        misplacedOverAPage();
        torn();
        tornPage();
        countsOnlyItsDrive();
        manyAndOrder();
        outside();
        withPowerOff();
        cutWriteLeavesThePlan();
        Check.end();
    }

    private static void dropped() {
        GuardVolume volume = new GuardVolume();
        volume.plan(1, 2, 0, Integer.MIN_VALUE);
        Check.same("plans of drive 1", volume.count(3), 1);
        Check.same("plans of drive 0", volume.count(2), 0);
        volume.write(40, 0, 9);
        Check.same("the second write of drive 1 is copy 1", volume.raw(1, 40, 0), 0);
        Check.same("the first was stored", volume.raw(1, 69, 0), 1);
        Check.same("it counts as a write", volume.count(1), 2);
        Check.same("the plan is gone", volume.count(3), 0);
        Check.same("verdict", volume.verdict(1, 40), 4);
    }

    private static void misplaced() {
        GuardVolume volume = new GuardVolume();
        volume.plan(1, 2, 1, 71);
        volume.write(40, 0, 9);
        String stray = Look.wholeRow(new int[] {9, 0, 0, 0, 0, 0, 0, 0}, 40, 1);
        Check.holds("stored elsewhere", Look.row(volume, 1, 71).equals(stray));
        Check.same("not in its slot", volume.raw(1, 40, 10), 0);
        Check.holds("the page there is wrong", !volume.isRight(1, 7));
        Check.same("not on the other drive", volume.raw(0, 71, 9), 71);
        GuardVolume other = new GuardVolume();
        other.plan(0, 1, 1, 0);
        other.write(40, 0, 9);
        Check.same("foreign", other.verdict(0, 0), 2);
        Check.same("old", other.verdict(0, 40), 4);
    }

    private static void misplacedInItsOwnSlot() {
        GuardVolume volume = new GuardVolume();
        volume.plan(0, 1, 1, 7);
        volume.write(7, 0, 3);
        Check.same("stored where it belongs", volume.raw(0, 7, 0), 3);
        Check.same("the plan is gone", volume.count(2), 0);
    }

    private static void misplacedOverAPage() {
        GuardVolume volume = new GuardVolume();
        volume.plan(1, 1, 1, 10);
        volume.write(7, 0, 3);
        Check.same("a list in a block's slot", volume.raw(1, 10, 9), 64);
        Check.same("foreign", volume.verdict(1, 10), 2);
        Check.holds("the page is old, the memory knows", !volume.isRight(1, 0));
        Check.same("the list of copy 1 is taken for copy 0", volume.expected(0, 7), 1);
    }

    private static void torn() {
        int[] before = {1, 2, 3, 4, 5, 6, 7, 8};
        for (int x = 1; x <= 10; x++) {
            GuardVolume volume = new GuardVolume();
            for (int word = 0; word < 8; word++) {
                volume.write(3, word, before[word]);
            }
            int oldSum = volume.raw(0, 3, 8);
            volume.plan(0, 3, 2, x);
            volume.write(4, 0, 1);
            volume.write(3, 0, 77);
            Check.same("torn at " + x + ": word 0", volume.raw(0, 3, 0), 77);
            for (int word = 1; word < 8; word++) {
                Check.same("torn at " + x + ": word " + word, volume.raw(0, 3, word), before[word]);
            }
            Check.same("torn at " + x + ": sum", volume.raw(0, 3, 8), x >= 9 ? volume.raw(1, 3, 8) : oldSum);
            Check.same("torn at " + x + ": version", volume.raw(0, 3, 10), 8);
            Check.same("torn at " + x + ": verdict", volume.verdict(0, 3), 1);
            Check.same("torn at " + x + ": the plan is gone", volume.count(2), 0);
        }
    }

    /** What stays in the slot is what stood there, not zeros: here a stray list. */
    private static void tornPage() {
        GuardVolume volume = new GuardVolume();
        volume.plan(1, 1, 1, 20);
        volume.write(0, 0, 5);
        volume.plan(1, 2, 2, 9);
        volume.write(20, 3, 6);
        Check.same("new word", volume.raw(1, 20, 3), 6);
        Check.same("new sum", volume.raw(1, 20, 8), volume.raw(0, 20, 8));
        Check.same("address stays", volume.raw(1, 20, 9), 64);
        GuardVolume whole = new GuardVolume();
        whole.plan(1, 1, 2, 5);
        whole.write(6, 0, 5);
        Check.holds("nothing new among the first 5, so old and whole", Look.row(whole, 1, 64)
                .equals(Look.wholeRow(new int[8], 64, 0)));
        Check.holds("yet not right", !whole.isRight(1, 0));
    }

    private static void countsOnlyItsDrive() {
        GuardVolume volume = new GuardVolume();
        volume.plan(0, 50, 0, 0);
        for (int i = 0; i < 24; i++) {
            volume.write(i, 0, 1);
        }
        Check.same("48 writes later it is there", volume.count(2), 1);
        volume.write(24, 0, 1);
        Check.same("the 50th is the list on drive 0", volume.raw(0, 67, 0), 0);
        Check.same("copy 0 was stored", volume.raw(0, 24, 0), 1);
        Check.same("gone", volume.count(2), 0);
    }

    private static void manyAndOrder() {
        GuardVolume volume = new GuardVolume();
        for (int n = 1; n <= 8; n++) {
            volume.plan(0, 9 - n, n % 2 == 0 ? 0 : 2, 1);
        }
        Check.refused("a ninth", Check.UNSUPPORTED, volume, () -> volume.plan(0, 9, 0, 0));
        Check.refused("a ninth for a planned write", Check.ARGUMENT, volume, () -> volume.plan(0, 8, 0, 0));
        Check.refused("a ninth of a wrong kind", Check.ARGUMENT, volume, () -> volume.plan(0, 9, 3, 0));
        Check.refused("a ninth on no drive", Check.BOUNDS, volume, () -> volume.plan(2, 9, 0, 0));
        volume.plan(1, 9, 0, 0);
        volume.write(0, 0, 1);
        Check.same("two are gone", volume.count(2), 6);
        Check.refused("the write is now the sixth", Check.ARGUMENT, volume, () -> volume.plan(0, 6, 0, 0));
        volume.plan(0, 7, 0, 0);
        volume.plan(0, 8, 0, 0);
        Check.same("eight again", volume.count(2), 8);
        for (int i = 1; i < 5; i++) {
            volume.write(8 * i, 0, 1);
        }
        Check.same("all are gone", volume.count(2), 0);
        Check.same("the other drive's stays no longer", volume.count(3), 0);
    }

    private static void outside() {
        GuardVolume volume = new GuardVolume();
        int[][] arguments = {{0, 0, 0, 0}, {0, 51, 0, 0}, {0, -1, 0, 0}, {0, Integer.MAX_VALUE, 0, 0},
            {0, Integer.MIN_VALUE, 0, 0}, {1, 1, -1, 0}, {1, 1, 3, 1}, {1, 1, 1, -1}, {1, 1, 1, 72}, {1, 1, 2, 0},
            {1, 1, 2, 11}, {1, 1, 2, -1}};
        for (int[] a : arguments) {
            Check.refused("plan " + a[0] + " " + a[1] + " " + a[2] + " " + a[3], Check.ARGUMENT, volume,
                    () -> volume.plan(a[0], a[1], a[2], a[3]));
        }
        Check.refused("plan of drive -1", Check.BOUNDS, volume, () -> volume.plan(-1, 1, 0, 0));
        Check.refused("plan of drive 2, nothing right", Check.BOUNDS, volume, () -> volume.plan(2, 0, 9, 0));
        volume.plan(0, 1, 1, 0);
        volume.plan(0, 2, 1, 71);
        volume.plan(0, 3, 2, 1);
        volume.plan(0, 4, 2, 10);
        volume.plan(0, 50, 0, 99);
        volume.plan(1, 1, 0, -99);
        Check.same("plans of drive 0", volume.count(2), 5);
        Check.same("plans of drive 1", volume.count(3), 1);
        Check.refused("planned", Check.ARGUMENT, volume, () -> volume.plan(0, 50, 1, 5));
    }

    private static void withPowerOff() {
        GuardVolume volume = new GuardVolume();
        volume.cutAfter(0);
        volume.write(1, 0, 5);
        volume.plan(0, 1, 0, 0);
        Check.same("a plan needs no power", volume.count(2), 1);
        Check.same("writes of start()", volume.start(), 4);
        Check.same("start's first write was dropped", volume.verdict(0, 1), 4);
        Check.same("gone", volume.count(2), 0);
    }

    private static void cutWriteLeavesThePlan() {
        GuardVolume volume = new GuardVolume();
        volume.plan(0, 1, 0, 0);
        volume.cutAfter(0);
        volume.write(1, 0, 5);
        Check.same("a write that was not done takes no plan", volume.count(2), 1);
        GuardVolume other = new GuardVolume();
        other.plan(0, 1, 0, 0);
        other.cutAfter(1);
        Check.same("a failed write counts for the cut", other.write(1, 0, 5), 3);
        Check.same("gone", other.count(2), 0);
        Check.same("counted", other.count(0), 1);
        Check.same("the second was not done", other.count(1), 0);
    }
}

/** Promises 11, 12 and 13: expected, verdict, isRight. */
public final class JudgeTest {
    public static void main(String[] args) {
        eachVerdict();
        firstThatFits();
        expectedByEachList();
        listsMayDiffer();
        rightness();
        outside();
        Check.end();
    }

    private static void eachVerdict() {
        GuardVolume volume = new GuardVolume();
        volume.write(1, 0, 1);
        Check.same("good", volume.verdict(0, 1), 0);
        volume.plan(0, 1, 2, 4);
        volume.write(1, 0, 2);
        Check.same("torn", volume.verdict(0, 1), 1);
        volume.plan(0, 1, 1, 3);
        volume.write(2, 0, 2);
        Check.same("foreign", volume.verdict(0, 3), 2);
        Check.same("old", volume.verdict(0, 2), 4);
        volume.cutAfter(3);
        volume.write(5, 0, 1);
        Check.same("listed", volume.verdict(0, 5), 0);
        Check.same("newer, not yet listed", volume.verdict(1, 5), 5);
        Check.same("expected of copy 0", volume.expected(0, 5), 1);
        Check.same("expected of copy 1", volume.expected(1, 5), 0);
    }

    private static GuardVolume withoutLists() {
        GuardVolume volume = new GuardVolume();
        volume.write(1, 0, 1);
        volume.plan(0, 1, 2, 1);
        volume.write(2, 0, 7);
        volume.plan(0, 1, 1, 3);
        volume.write(4, 0, 7);
        volume.plan(0, 2, 0, 0);
        volume.plan(1, 1, 0, 0);
        volume.write(5, 0, 7);
        return volume;
    }

    private static void firstThatFits() {
        GuardVolume volume = withoutLists();
        Check.holds("no list is right", !volume.isRight(0, 0) && !volume.isRight(1, 0));
        int[] due = {3, 3, 1, 2, 3, 3, 3, 3};
        for (int block = 0; block < 8; block++) {
            Check.same("verdict of copy 0 of " + block, volume.verdict(0, block), due[block]);
            Check.same("verdict of copy 1 of " + block, volume.verdict(1, block), 3);
            Check.same("expected", volume.expected(0, block), -1);
            Check.same("expected", volume.expected(1, block), -1);
        }
        Check.same("block 8 has another page", volume.verdict(0, 8), 0);
        GuardVolume foreign = new GuardVolume();
        foreign.plan(0, 1, 1, 20);
        foreign.write(6, 0, 1);
        Check.same("newer, but foreign", foreign.verdict(0, 20), 2);
        foreign.plan(0, 1, 2, 8);
        foreign.write(20, 0, 2);
        Check.same("foreign, but torn", foreign.verdict(0, 20), 1);
        Check.same("its address", foreign.raw(0, 20, 9), 6);
    }

    private static void expectedByEachList() {
        GuardVolume volume = new GuardVolume();
        volume.write(1, 0, 1);
        volume.plan(0, 2, 0, 0);
        volume.write(1, 0, 2);
        Check.holds("list of copy 1 is wrong", !volume.isRight(0, 0));
        Check.holds("list of copy 0 is right", volume.isRight(1, 0));
        Check.same("copy 0 by its own", volume.expected(0, 1), 2);
        Check.same("copy 1 by the other", volume.expected(1, 1), 2);
        GuardVolume other = new GuardVolume();
        other.write(1, 0, 1);
        other.plan(1, 1, 0, 0);
        other.write(1, 0, 2);
        Check.holds("list of copy 0 is wrong", !other.isRight(1, 0));
        Check.same("copy 0 by the other", other.expected(0, 1), 2);
        Check.same("copy 1 by its own", other.expected(1, 1), 2);
        Check.same("neighbours, too", other.expected(0, 2), 0);
    }

    private static void listsMayDiffer() {
        GuardVolume volume = new GuardVolume();
        volume.cutAfter(2);
        volume.write(63, 0, 1);
        Check.same("copy 0 by the list on 1", volume.expected(0, 63), 1);
        Check.same("copy 1 by the list on 0", volume.expected(1, 63), 0);
        Check.same("copy 0", volume.verdict(0, 63), 0);
        Check.same("copy 1", volume.verdict(1, 63), 0);
    }

    private static void rightness() {
        GuardVolume volume = new GuardVolume();
        volume.plan(1, 1, 2, 9);
        volume.write(8, 0, 1);
        Check.holds("torn", !volume.isRight(1, 1));
        Check.holds("whole", volume.isRight(0, 1));
        Check.holds("its neighbours", volume.isRight(1, 0) && volume.isRight(1, 2));
        GuardVolume stray = new GuardVolume();
        stray.plan(1, 1, 1, 66);
        stray.write(8, 0, 1);
        Check.same("a whole list in another's slot", stray.raw(1, 66, 9), 65);
        Check.holds("foreign", !stray.isRight(1, 2));
        Check.holds("old", !stray.isRight(1, 1));
        GuardVolume sameVersion = new GuardVolume();
        sameVersion.write(16, 0, 1);
        sameVersion.plan(1, 1, 1, 66);
        sameVersion.write(8, 0, 1);
        Check.same("version as the memory has it", sameVersion.raw(1, 66, 10), 1);
        Check.holds("yet foreign", !sameVersion.isRight(1, 2));
        GuardVolume replaced = new GuardVolume();
        replaced.replace(0);
        Check.holds("zeros are no page", !replaced.isRight(0, 0) && !replaced.isRight(0, 7));
        Check.holds("the other drive's are", replaced.isRight(1, 0) && replaced.isRight(1, 7));
    }

    private static void outside() {
        GuardVolume volume = new GuardVolume();
        int[][] outside = {{-1, 0}, {2, 0}, {0, -1}, {1, 64}, {Integer.MIN_VALUE, 0}, {0, Integer.MAX_VALUE}};
        for (int[] a : outside) {
            Check.refused("expected " + a[0] + " " + a[1], Check.BOUNDS, volume, () -> volume.expected(a[0], a[1]));
            Check.refused("verdict " + a[0] + " " + a[1], Check.BOUNDS, volume, () -> volume.verdict(a[0], a[1]));
            Check.refused("isRight " + a[0] + " " + a[1], Check.BOUNDS, volume, () -> volume.isRight(a[0], a[1]));
        }
        Check.refused("isRight of a slot", Check.BOUNDS, volume, () -> volume.isRight(0, 8));
        Check.refused("isRight of a slot", Check.BOUNDS, volume, () -> volume.isRight(1, 64));
        Check.same("last block", volume.expected(1, 63) + volume.verdict(1, 63), 0);
    }
}

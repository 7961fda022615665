/** Promises 8, 9 and 10: scrub, findings, finding. */
public final class ScrubTest {
    public static void main(String[] args) {
        goesOnWhereItStopped();
        mendsEachSort();
        mendsLists();
        mendsListThenCopy();
        noneGood();
        cutInAList();
        cutInACopy();
        failedMending();
        keepsTheFirstHundred();
        findingsAreCleared();
        outside();
        Check.end();
    }

    private static void goesOnWhereItStopped() {
        GuardVolume volume = new GuardVolume();
        Check.same("none", volume.scrub(0), 0);
        Check.same("next", volume.count(6), 0);
        volume.scrub(5);
        Check.same("next", volume.count(6), 5);
        volume.scrub(64);
        Check.same("next", volume.count(6), 5);
        volume.scrub(58);
        Check.same("next", volume.count(6), 63);
        volume.scrub(1);
        Check.same("behind 63 comes 0", volume.count(6), 0);
        volume.scrub(63);
        volume.scrub(3);
        Check.same("over the end", volume.count(6), 2);
        volume.plan(0, 1, 0, 0);
        volume.write(1, 0, 1);
        Check.same("2 .. 63, 0", volume.scrub(63), 0);
        Check.same("1", volume.scrub(1), 1);
    }

    private static void mendsEachSort() {
        GuardVolume volume = new GuardVolume();
        volume.write(9, 0, 1);
        volume.write(18, 0, 1);
        volume.plan(0, 1, 1, 18);
        volume.write(9, 0, 2);
        volume.plan(1, 2, 2, 3);
        volume.write(27, 0, 3);
        int writes0 = volume.count(0);
        int writes1 = volume.count(1);
        Check.same("three findings", volume.scrub(64), 3);
        Check.finding("old", volume, 0, 9, 0, 4, 9);
        Check.finding("foreign", volume, 1, 18, 0, 2, 9);
        Check.finding("torn", volume, 2, 27, 1, 1, 27);
        Check.same("kept", volume.findings(false), 3);
        Check.same("two copies stored on 0, no list", volume.count(0), writes0 + 2);
        Check.same("one copy stored on 1, no list", volume.count(1), writes1 + 1);
        for (int block : new int[] {9, 18, 27}) {
            Check.holds("mended " + block, Look.row(volume, 0, block).equals(Look.row(volume, 1, block)));
            Check.same("good " + block, volume.verdict(0, block) + volume.verdict(1, block), 0);
        }
        Check.same("nothing more", volume.scrub(64), 0);
        Check.same("the old ones are still kept", volume.findings(false), 3);
    }

    /** A list is told with the first of its page's blocks that the scrub meets, and is mended whole. */
    private static void mendsLists() {
        for (int drive = 0; drive < 2; drive++) {
            GuardVolume volume = new GuardVolume();
            volume.write(42, 0, 1);
            volume.write(45, 0, 1);
            volume.plan(drive, drive == 0 ? 2 : 1, 0, 0);
            volume.write(42, 0, 2);
            Check.holds("wrong", !volume.isRight(drive, 5));
            Check.same("one finding", volume.scrub(64), 1);
            Check.finding("list on " + drive, volume, 0, 40, drive, 6, 69);
            int[] versions = {0, 0, 2, 0, 0, 1, 0, 0};
            Check.holds("the list", Look.row(volume, drive, 69).equals(Look.wholeRow(versions, 69, 4)));
            Check.holds("right", volume.isRight(drive, 5));
            Check.same("greatest version", volume.count(7), 4);
        }
        GuardVolume stray = new GuardVolume();
        stray.plan(0, 1, 1, 71);
        stray.write(3, 0, 5);
        Check.same("a list and a copy", stray.scrub(64), 2);
        Check.finding("the copy", stray, 0, 3, 0, 4, 3);
        Check.finding("the address in the page's slot", stray, 1, 56, 0, 6, 3);
        GuardVolume both = new GuardVolume();
        both.plan(1, 1, 0, 0);
        both.write(3, 0, 5);
        both.plan(0, 1, 1, 64);
        both.write(9, 0, 5);
        Check.holds("neither list is right", !both.isRight(0, 0) && !both.isRight(1, 0));
        Check.same("8 blocks unknown, one old", both.scrub(64), 9);
        Check.finding("unknown", both, 0, 0, -1, 7, -1);
        Check.finding("unknown", both, 7, 7, -1, 7, -1);
        Check.finding("old", both, 8, 9, 0, 4, 9);
    }

    /** The list is mended first, and the copy is judged by it then. */
    private static void mendsListThenCopy() {
        GuardVolume volume = new GuardVolume();
        volume.write(0, 0, 1);
        volume.plan(1, 2, 0, 0);
        volume.plan(0, 2, 0, 0);
        volume.write(0, 0, 2);
        Check.holds("list of copy 1 is wrong", !volume.isRight(0, 0));
        Check.same("copy 1 is old by the other list", volume.verdict(1, 0), 4);
        Check.same("list and copy", volume.scrub(1), 2);
        Check.finding("the list of copy 1", volume, 0, 0, 0, 6, 64);
        Check.same("page 0 on drive 0 alone has version 3", volume.count(7), 3);
        Check.finding("copy 1", volume, 1, 0, 1, 4, 0);
        Check.same("good", volume.verdict(1, 0), 0);
        GuardVolume newer = new GuardVolume();
        newer.plan(0, 1, 0, 0);
        newer.write(6, 0, 7);
        newer.plan(1, 1, 0, 0);
        newer.cutAfter(3);
        newer.write(3, 0, 9);
        newer.plan(0, 1, 1, 64);
        newer.start();
        Check.same("both lists began at zeros", newer.verdict(1, 6), 5);
        Check.same("newer is found", newer.scrub(64), 1);
        Check.finding("newer", newer, 0, 6, 1, 5, 6);
        Check.same("the listed version is taken", newer.raw(1, 6, 0), 0);
    }

    private static void noneGood() {
        GuardVolume volume = new GuardVolume();
        volume.plan(0, 1, 0, 0);
        volume.plan(1, 2, 0, 0);
        volume.write(62, 0, 1);
        int writes = volume.count(0) + volume.count(1);
        Check.same("one finding", volume.scrub(64), 1);
        Check.finding("none", volume, 0, 62, -1, 7, -1);
        Check.same("nothing stored", volume.count(0) + volume.count(1), writes);
        Check.same("told each time", volume.scrub(64), 1);
    }

    private static void cutInAList() {
        GuardVolume volume = new GuardVolume();
        volume.plan(1, 1, 0, 0);
        volume.write(10, 0, 1);
        volume.cutAfter(0);
        Check.same("the finding is told", volume.scrub(64), 1);
        Check.same("off", volume.count(4), 0);
        Check.same("block 8 is next", volume.count(6), 8);
        Check.holds("not mended", !volume.isRight(1, 1));
        Check.same("memory as it was", volume.count(7), 1);
        Check.same("start", volume.start(), 0);
        Check.same("told again", volume.scrub(64), 1);
        Check.same("kept", volume.findings(false), 2);
        Check.finding("first", volume, 0, 8, 1, 6, 65);
        Check.finding("again", volume, 1, 8, 1, 6, 65);
        Check.same("once around", volume.count(6), 8);
    }

    private static void cutInACopy() {
        GuardVolume volume = new GuardVolume();
        volume.plan(0, 1, 0, 0);
        volume.write(10, 0, 1);
        volume.plan(0, 1, 0, 0);
        volume.write(20, 0, 1);
        volume.cutAfter(1);
        Check.same("the second is not mended", volume.scrub(64), 2);
        Check.same("block 20 is next", volume.count(6), 20);
        Check.same("10 is mended", volume.verdict(0, 10), 0);
        Check.same("20 is not", volume.verdict(0, 20), 4);
        volume.start();
        Check.same("20 first", volume.scrub(1), 1);
        Check.same("20 is mended", volume.verdict(0, 20), 0);
        Check.same("then 21", volume.count(6), 21);
    }

    private static void failedMending() {
        GuardVolume volume = new GuardVolume();
        volume.plan(0, 1, 0, 0);
        volume.plan(0, 3, 1, 30);
        volume.write(10, 0, 1);
        Check.same("mended elsewhere, and that is found", volume.scrub(64), 2);
        Check.finding("old", volume, 0, 10, 0, 4, 10);
        Check.finding("foreign", volume, 1, 30, 0, 2, 10);
        Check.same("old still", volume.verdict(0, 10), 4);
        Check.same("next time", volume.scrub(64), 1);
        GuardVolume list = new GuardVolume();
        list.plan(1, 1, 0, 0);
        list.plan(1, 3, 0, 0);
        list.write(10, 0, 1);
        Check.same("dropped at block 8, stored at block 9", list.scrub(64), 2);
        Check.finding("at 8", list, 0, 8, 1, 6, 65);
        Check.finding("at 9", list, 1, 9, 1, 6, 65);
        Check.same("its version was counted on", list.raw(1, 65, 10), 3);
    }

    private static void keepsTheFirstHundred() {
        GuardVolume volume = new GuardVolume();
        volume.replace(0);
        volume.replace(1);
        Check.same("all are lost", volume.scrub(64), 64);
        Check.same("kept", volume.findings(false), 64);
        Check.same("all told", volume.scrub(64), 64);
        Check.same("kept", volume.findings(false), 100);
        Check.finding("the hundredth", volume, 99, 35, -1, 7, -1);
        Check.same("all told, none kept", volume.scrub(10), 10);
        Check.same("kept", volume.findings(false), 100);
        Check.finding("the first", volume, 0, 0, -1, 7, -1);
        Check.refused("finding 100", Check.BOUNDS, volume, () -> volume.finding(100, 0));
        Check.same("cleared", volume.findings(true), 100);
        Check.same("room again", volume.scrub(2), 2);
        Check.same("kept", volume.findings(false), 2);
        Check.finding("the new first", volume, 0, 10, -1, 7, -1);
    }

    private static void findingsAreCleared() {
        GuardVolume volume = new GuardVolume();
        volume.plan(0, 1, 0, 0);
        volume.write(10, 0, 1);
        volume.scrub(64);
        Check.same("not cleared", volume.findings(false), 1);
        Check.same("cleared behind the answer", volume.findings(true), 1);
        Check.same("none", volume.findings(false), 0);
        Check.refused("none", Check.BOUNDS, volume, () -> volume.finding(0, 0));
    }

    private static void outside() {
        GuardVolume volume = new GuardVolume();
        volume.plan(0, 1, 0, 0);
        volume.write(10, 0, 1);
        for (int n : new int[] {-1, 65, Integer.MIN_VALUE, Integer.MAX_VALUE}) {
            Check.refused("scrub " + n, Check.ARGUMENT, volume, () -> volume.scrub(n));
        }
        volume.scrub(64);
        int[][] outside = {{-1, 0}, {1, 0}, {0, -1}, {0, 4}, {Integer.MAX_VALUE, 0}, {0, Integer.MIN_VALUE},
            {Integer.MIN_VALUE, 3}};
        for (int[] a : outside) {
            Check.refused("finding " + a[0] + " " + a[1], Check.BOUNDS, volume, () -> volume.finding(a[0], a[1]));
        }
        volume.cutAfter(0);
        volume.write(1, 0, 0);
        Check.same("finding needs no power", volume.finding(0, 0), 10);
        Check.refused("off: scrub 65", Check.STATE, volume, () -> volume.scrub(65));
        Check.refused("off: scrub 1", Check.STATE, volume, () -> volume.scrub(1));
    }
}

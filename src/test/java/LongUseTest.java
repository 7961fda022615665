/** An object is used for at most 512 calls: the last of them answers as the first does, whatever calls they are. */
public final class LongUseTest {
    private static final int CALLS = 512;

    public static void main(String[] args) {
        Check.sentence("An object is used for at most 512 calls after it has been made");
        writes();
        writesAndReads();
        scrubsOfLostBlocks();
        scrubsOfWrongLists();
        rebuilds();
        plans();
        cutsAndStarts();
        replaces();
        refusedCalls();
        Check.end();
    }

    private static void writes() {
        GuardVolume volume = new GuardVolume();
        for (int i = 0; i < CALLS; i++) {
            Check.same("write " + i, volume.write(8 * (i % 9 % 8) + i / 256, i % 8, i), 0);
        }
        Check.same("writes", volume.count(0) + volume.count(1), 4 * CALLS);
    }

    private static void writesAndReads() {
        GuardVolume volume = new GuardVolume();
        for (int i = 0; i < CALLS / 2; i++) {
            volume.write(i % 64, i % 8, i * 7919);
            Check.same("read " + i, volume.read(i % 64, i % 8), i * 7919);
        }
        Check.same("each page had 32", volume.count(7), CALLS / 2 / 8);
    }

    private static void scrubsOfLostBlocks() {
        GuardVolume volume = new GuardVolume();
        volume.replace(0);
        volume.replace(1);
        for (int i = 2; i < CALLS; i++) {
            Check.same("scrub " + i, volume.scrub(64), 64);
        }
        Check.same("kept", volume.findings(true), 100);
    }

    private static void scrubsOfWrongLists() {
        GuardVolume volume = new GuardVolume();
        for (int i = 0; i < CALLS / 2; i++) {
            volume.replace(i % 2);
            Check.same("scrub " + i, volume.scrub(64), 8 + 63);
        }
        Check.same("each list was made anew each second time", volume.count(7), CALLS / 4);
    }

    private static void rebuilds() {
        GuardVolume volume = new GuardVolume();
        for (int i = 0; i < CALLS; i++) {
            Check.same("rebuild " + i, volume.rebuild(1), 0);
        }
        Check.same("a list's version has no last one", volume.count(7), 8 * CALLS);
        Check.same("writes", volume.count(0), 64 * CALLS);
        Check.same("good", volume.scrub(64), 0);
    }

    private static void plans() {
        GuardVolume volume = new GuardVolume();
        for (int i = 0; i < CALLS / 3; i++) {
            volume.plan(i % 2, i % 2 == 0 ? 1 : 2, 0, 0);
            Check.same("write " + i, volume.write(i % 64, 0, i), 0);
            Check.same("scrub " + i, volume.scrub(64), 1);
        }
        GuardVolume full = new GuardVolume();
        for (int i = 0; i < CALLS / 2; i++) {
            full.plan(i % 2, 50 - i % 16 / 2, 0, 0);
            if (full.count(2) + full.count(3) == 16) {
                full.replace(0);
                full.replace(1);
            }
        }
        Check.same("all were taken", full.count(2) + full.count(3), 0);
    }

    private static void cutsAndStarts() {
        GuardVolume volume = new GuardVolume();
        for (int i = 0; i < CALLS / 3; i++) {
            volume.cutAfter(i % 4);
            Check.same("write " + i, volume.write(i % 64, 0, i), 3);
            Check.same("start " + i, volume.start(), 4);
        }
        Check.same("good", volume.scrub(64), 0);
        Check.same("word", volume.read(40, 0), 40 + 2 * 64);
    }

    private static void replaces() {
        GuardVolume volume = new GuardVolume();
        for (int i = 0; i < CALLS / 2; i++) {
            volume.replace(i % 2);
            Check.same("rebuild " + i, volume.rebuild(i % 2), 0);
        }
        Check.same("good", volume.scrub(64), 0);
    }

    private static void refusedCalls() {
        GuardVolume volume = new GuardVolume();
        volume.plan(0, 50, 0, 0);
        for (int i = 1; i < CALLS; i++) {
            Check.refused("plan " + i, Check.ARGUMENT, volume, () -> volume.plan(0, 50, 0, 0));
        }
        Check.same("plans", volume.count(2), 1);
    }
}

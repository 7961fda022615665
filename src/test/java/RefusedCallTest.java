import java.util.ArrayList;
import java.util.List;

/**
 * Every way in which a call can throw: which exception it is, also where several fit, and that nothing changes. What
 * cannot be seen (the cut to come, where the plans are, what the journal has) is compared by a twin without the call:
 * both go through the same calls then.
 */
public final class RefusedCallTest {
    private static final int LAST = Integer.MAX_VALUE;
    private static final int FIRST = Integer.MIN_VALUE;

    private interface Use {
        int on(GuardVolume volume);
    }

    private interface Making {
        GuardVolume make();
    }

    private final Making making;

    private RefusedCallTest(Making making) {
        this.making = making;
    }

    public static void main(String[] args) {
        asTold();
        RefusedCallTest on = new RefusedCallTest(RefusedCallTest::busy);
        on.outsideOfEverything();
        on.withPower();
        RefusedCallTest off = new RefusedCallTest(RefusedCallTest::off);
        off.outsideOfEverything();
        off.withoutPower();
        RefusedCallTest offByScrub = new RefusedCallTest(RefusedCallTest::offByScrub);
        offByScrub.outsideOfEverything();
        offByScrub.withoutPower();
        Check.end();
    }

    /** Block 33 has version 60, drive 0 has 8 plans, drive 1 has two; a cut is to come, and findings are kept. */
    private static GuardVolume busy() {
        GuardVolume volume = new GuardVolume();
        for (int i = 1; i <= 60; i++) {
            volume.write(33, 0, i);
        }
        volume.plan(0, 1, 0, 0);
        volume.plan(1, 4, 1, 67);
        volume.write(9, 0, 1);
        volume.write(10, 0, 1);
        volume.scrub(12);
        volume.plan(0, 1, 0, 0);
        volume.write(11, 0, 1);
        volume.read(11, 0);
        for (int n = 3; n <= 10; n++) {
            volume.plan(0, n == 10 ? 40 : n, n % 3, 5);
        }
        volume.plan(1, 3, 0, 0);
        volume.plan(1, 50, 2, 3);
        volume.cutAfter(7);
        return volume;
    }

    private static GuardVolume off() {
        GuardVolume volume = busy();
        volume.cutAfter(2);
        volume.write(12, 3, 4);
        return volume;
    }

    private static GuardVolume offByScrub() {
        GuardVolume volume = busy();
        volume.cutAfter(0);
        volume.scrub(64);
        return volume;
    }

    /** Were these otherwise, the refused calls would be tried on less than they should. */
    private static void asTold() {
        GuardVolume busy = busy();
        Check.same("busy: plans of 0", busy.count(2), 8);
        Check.same("busy: plans of 1", busy.count(3), 2);
        Check.same("busy: power", busy.count(4), 1);
        Check.same("busy: findings", busy.findings(false), 2);
        Check.same("busy: code", busy.code(), 1);
        Check.same("busy: next", busy.count(6), 12);
        Check.same("off: power", off().count(4), 0);
        Check.same("off: journal", off().count(5), 12);
        Check.same("offByScrub: power", offByScrub().count(4), 0);
        Check.same("offByScrub: journal", offByScrub().count(5), -1);
    }

    private void outsideOfEverything() {
        Check.sentence("IndexOutOfBoundsException: there is no such drive, block, slot, word, number or finding.");
        for (int k : new int[] {-1, 64, FIRST, LAST}) {
            refused("write", Check.BOUNDS, volume -> volume.write(k, 0, 1));
            refused("read", Check.BOUNDS, volume -> volume.read(k, 0));
            refused("expected", Check.BOUNDS, volume -> volume.expected(0, k));
            refused("verdict", Check.BOUNDS, volume -> volume.verdict(1, k));
        }
        for (int k : new int[] {-1, 8, FIRST, LAST}) {
            refused("write word", Check.BOUNDS, volume -> volume.write(0, k, 1));
            refused("write word, version 60", Check.BOUNDS, volume -> volume.write(33, k, 1));
            refused("read word", Check.BOUNDS, volume -> volume.read(0, k));
            refused("isRight", Check.BOUNDS, volume -> volume.isRight(0, k) ? 1 : 0);
            refused("count", Check.BOUNDS, volume -> volume.count(k));
        }
        for (int k : new int[] {-1, 2, FIRST, LAST}) {
            refused("plan", Check.BOUNDS, volume -> planned(volume, k, 1, 0, 0));
            refused("plan, all else wrong", Check.BOUNDS, volume -> planned(volume, k, 0, 3, -1));
            refused("expected", Check.BOUNDS, volume -> volume.expected(k, 0));
            refused("verdict", Check.BOUNDS, volume -> volume.verdict(k, 0));
            refused("isRight", Check.BOUNDS, volume -> volume.isRight(k, 0) ? 1 : 0);
            refused("raw", Check.BOUNDS, volume -> volume.raw(k, 0, 0));
            refused("replace", Check.BOUNDS, volume -> replaced(volume, k));
            refused("rebuild", Check.BOUNDS, volume -> volume.rebuild(k));
        }
        for (int k : new int[] {-1, 72, FIRST, LAST}) {
            refused("raw slot", Check.BOUNDS, volume -> volume.raw(1, k, 0));
        }
        for (int k : new int[] {-1, 11, FIRST, LAST}) {
            refused("raw number", Check.BOUNDS, volume -> volume.raw(1, 71, k));
        }
        for (int k : new int[] {-1, 99, FIRST, LAST}) {
            refused("finding", Check.BOUNDS, volume -> volume.finding(k, 0));
            refused("the one behind the last", Check.BOUNDS, volume -> volume.finding(volume.findings(false), 0));
        }
        for (int k : new int[] {-1, 4, FIRST, LAST}) {
            refused("finding what", Check.BOUNDS, volume -> volume.finding(0, k));
        }
        wrongCuts();
        wrongPlans();
    }

    private void wrongCuts() {
        Check.sentence("Power is to be CUT behind the next n writes (0 .. 100); -1: it is not. "
                + "IllegalArgumentException; IllegalStateException.");
        for (int n : new int[] {-2, 101, FIRST, LAST}) {
            refused("cutAfter", Check.ARGUMENT, volume -> cut(volume, n));
        }
    }

    private void wrongPlans() {
        Check.sentence("IllegalArgumentException (also when that write has a plan); UnsupportedOperationException "
                + "when the drive has 8.");
        for (int drive = 0; drive < 2; drive++) {
            int d = drive;
            for (int n : new int[] {0, -1, 51, FIRST, LAST}) {
                refused("plan n " + n, Check.ARGUMENT, volume -> planned(volume, d, n, 0, 0));
            }
            for (int kind : new int[] {-1, 3, FIRST, LAST}) {
                refused("plan kind " + kind, Check.ARGUMENT, volume -> planned(volume, d, 20, kind, 1));
            }
            for (int x : new int[] {-1, 72, FIRST, LAST}) {
                refused("plan slot " + x, Check.ARGUMENT, volume -> planned(volume, d, 20, 1, x));
            }
            for (int x : new int[] {0, 11, FIRST, LAST}) {
                refused("plan length " + x, Check.ARGUMENT, volume -> planned(volume, d, 20, 2, x));
            }
        }
        refused("a planned write of 8", Check.ARGUMENT, volume -> planned(volume, 0, 4, 0, 0));
    }

    private void withPower() {
        Check.sentence("A call that throws changes nothing; where several exceptions that a call names fit, it is the "
                + "one that it names first.");
        refused("write, version 60", Check.UNSUPPORTED, volume -> volume.write(33, 0, 1));
        refused("start", Check.STATE, volume -> volume.start());
        for (int n : new int[] {-1, 65, FIRST, LAST}) {
            refused("scrub", Check.ARGUMENT, volume -> volume.scrub(n));
        }
        refused("a ninth plan", Check.UNSUPPORTED, volume -> planned(volume, 0, 20, 0, 0));
        refused("a ninth plan", Check.UNSUPPORTED, volume -> planned(volume, 0, 1, 2, 10));
        refused("a ninth plan", Check.UNSUPPORTED, volume -> planned(volume, 0, 50, 1, 71));
        refused("a planned write", Check.ARGUMENT, volume -> planned(volume, 1, 3, 1, 5));
        refused("a planned write", Check.ARGUMENT, volume -> planned(volume, 1, 50, 2, 5));
    }

    private void withoutPower() {
        Check.sentence("IllegalStateException: power is off.");
        refused("write", Check.STATE, volume -> volume.write(0, 0, 1));
        refused("write, version 60", Check.STATE, volume -> volume.write(33, 0, 1));
        refused("read", Check.STATE, volume -> volume.read(63, 7));
        for (int n : new int[] {-1, 0, 100}) {
            refused("cutAfter", Check.STATE, volume -> cut(volume, n));
        }
        for (int n : new int[] {-1, 0, 1, 64, 65, FIRST, LAST}) {
            refused("scrub", Check.STATE, volume -> volume.scrub(n));
        }
        for (int drive = 0; drive < 2; drive++) {
            int d = drive;
            refused("replace", Check.STATE, volume -> replaced(volume, d));
            refused("rebuild", Check.STATE, volume -> volume.rebuild(d));
        }
    }

    private static int planned(GuardVolume volume, int drive, int n, int kind, int x) {
        volume.plan(drive, n, kind, x);
        return 0;
    }

    private static int cut(GuardVolume volume, int n) {
        volume.cutAfter(n);
        return 0;
    }

    private static int replaced(GuardVolume volume, int drive) {
        volume.replace(drive);
        return 0;
    }

    private void refused(String what, String due, Use use) {
        GuardVolume volume = making.make();
        GuardVolume twin = making.make();
        String thrown = answer(volume, use);
        Check.holds(what + " throws " + due + ", not " + thrown, thrown.equals(due));
        Check.holds(what + " changes nothing that is seen", Look.all(volume).equals(Look.all(twin)));
        List<Use> later = later();
        for (int i = 0; i < later.size(); i++) {
            String got = answer(volume, later.get(i));
            Check.holds(what + " changes nothing for later call " + i, got.equals(answer(twin, later.get(i))));
        }
        Check.holds(what + " changes nothing later", Look.all(volume).equals(Look.all(twin)));
    }

    /** Only when it is off: else the twin, too, would have a call that throws. */
    private static int started(GuardVolume volume) {
        return volume.count(4) == 0 ? volume.start() : -1;
    }

    private static String answer(GuardVolume volume, Use use) {
        try {
            return Integer.toString(use.on(volume));
        } catch (RuntimeException e) {
            return e.getClass().getSimpleName();
        }
    }

    /** Enough calls for every plan to come due and for the cut, the journal and the scrub's place to be seen. */
    private static List<Use> later() {
        List<Use> later = new ArrayList<>();
        later.add(volume -> volume.code());
        later.add(RefusedCallTest::started);
        later.add(volume -> volume.findings(true));
        for (int i = 0; i < 30; i++) {
            int block = i;
            later.add(volume -> volume.write(block, 1, 5));
            later.add(volume -> volume.count(4));
            later.add(RefusedCallTest::started);
            later.add(volume -> volume.count(2) * 100 + volume.count(3));
        }
        later.add(volume -> volume.scrub(20));
        later.add(volume -> volume.count(6));
        later.add(volume -> volume.rebuild(0));
        later.add(volume -> volume.rebuild(1));
        return later;
    }
}

import java.util.Arrays;
import java.util.Random;

/** Long runs of random calls: the program and the plain model answer alike and look alike behind each call. */
public final class RandomRunsTest {
    private static final int RUNS = 400;
    private static final int CALLS = 512;
    private static final String[] NAMES = {"write", "read", "plan", "cutAfter", "start", "scrub", "findings",
        "replace", "rebuild", "count", "finding"};
    private static final int START = 4;
    /** How often, of a hundred, each of these calls is made: with many faults, and with few. */
    private static final int[] MANY_FAULTS = {35, 15, 20, 5, 6, 10, 3, 1, 2, 1, 2};
    private static final int[] FEW_FAULTS = {66, 12, 4, 2, 1, 8, 1, 1, 2, 1, 2};

    private final Random random;
    /** Runs on few blocks meet their own faults again, runs on many go through all pages; few faults, high versions. */
    private final int style;
    private final GuardVolume volume = new GuardVolume();
    private final PlainModel model = new PlainModel();

    private RandomRunsTest(long seed) {
        random = new Random(seed);
        style = (int) (seed % 4);
    }

    public static void main(String[] args) {
        for (int run = 0; run < RUNS && !Check.anyWrong(); run++) {
            new RandomRunsTest(run).run(run);
        }
        Check.end();
    }

    private void run(int run) {
        for (int i = 0; i < CALLS && !Check.anyWrong(); i++) {
            int sort = chooseSort();
            int[] with = chooseArguments(sort);
            String told = "run " + run + ", call " + i + ", " + NAMES[sort] + Arrays.toString(with);
            String got = answer(true, sort, with);
            String due = answer(false, sort, with);
            if (!got.equals(due)) {
                Check.report(told + " answered " + got + ", due is " + due);
            }
            String difference = difference();
            if (difference != null) {
                Check.report("behind " + told + " not as due: " + difference);
            }
        }
    }

    private String answer(boolean ofVolume, int sort, int[] with) {
        try {
            return Integer.toString(ofVolume ? askVolume(sort, with) : askModel(sort, with));
        } catch (RuntimeException e) {
            return e.getClass().getSimpleName();
        }
    }

    private int chooseSort() {
        if (volume.count(4) == 0 && random.nextInt(3) == 0) {
            return START;
        }
        int[] shares = style == 3 ? FEW_FAULTS : MANY_FAULTS;
        int left = random.nextInt(100);
        int sort = 0;
        while (left >= shares[sort]) {
            left -= shares[sort];
            sort++;
        }
        return sort;
    }

    private int[] chooseArguments(int sort) {
        switch (NAMES[sort]) {
            case "write":
                return new int[] {block(), near(8), random.nextInt(3) == 0 ? random.nextInt() : random.nextInt(3)};
            case "read":
                return new int[] {block(), near(8)};
            case "plan":
                int kind = near(3);
                return new int[] {near(2), planned(), kind, kind == 2 ? 1 + near(10) : slot()};
            case "cutAfter":
                return new int[] {random.nextInt(5) == 0 ? random.nextInt(106) - 3 : random.nextInt(9)};
            case "scrub":
                return new int[] {random.nextInt(5) == 0 ? random.nextInt(68) - 1 : random.nextInt(20)};
            case "findings":
                return new int[] {random.nextInt(4) == 0 ? 1 : 0};
            case "replace":
            case "rebuild":
                return new int[] {near(2)};
            case "count":
                return new int[] {near(8)};
            case "finding":
                return new int[] {random.nextInt(104) - 2, near(4)};
            default:
                return new int[0];
        }
    }

    /** Mostly 0 .. bound - 1, now and then just outside. */
    private int near(int bound) {
        if (random.nextInt(40) == 0) {
            return random.nextBoolean() ? -1 : bound;
        }
        return random.nextInt(bound);
    }

    private int block() {
        return near(style == 0 ? 64 : style == 1 ? 8 : style == 2 ? 20 : 2);
    }

    private int slot() {
        return random.nextInt(3) == 0 ? 64 + near(8) : near(style == 1 ? 8 : 72);
    }

    private int planned() {
        return random.nextInt(8) == 0 ? random.nextInt(54) - 1 : 1 + random.nextInt(style == 2 ? 3 : 12);
    }

    private int askVolume(int sort, int[] with) {
        switch (NAMES[sort]) {
            case "write":
                return volume.write(with[0], with[1], with[2]);
            case "read":
                return volume.read(with[0], with[1]);
            case "plan":
                volume.plan(with[0], with[1], with[2], with[3]);
                return 0;
            case "cutAfter":
                volume.cutAfter(with[0]);
                return 0;
            case "start":
                return volume.start();
            case "scrub":
                return volume.scrub(with[0]);
            case "findings":
                return volume.findings(with[0] == 1);
            case "replace":
                volume.replace(with[0]);
                return 0;
            case "rebuild":
                return volume.rebuild(with[0]);
            case "count":
                return volume.count(with[0]);
            default:
                return volume.finding(with[0], with[1]);
        }
    }

    private int askModel(int sort, int[] with) {
        switch (NAMES[sort]) {
            case "write":
                return model.write(with[0], with[1], with[2]);
            case "read":
                return model.read(with[0], with[1]);
            case "plan":
                model.plan(with[0], with[1], with[2], with[3]);
                return 0;
            case "cutAfter":
                model.cutAfter(with[0]);
                return 0;
            case "start":
                return model.start();
            case "scrub":
                return model.scrub(with[0]);
            case "findings":
                return model.findings(with[0] == 1);
            case "replace":
                model.replace(with[0]);
                return 0;
            case "rebuild":
                return model.rebuild(with[0]);
            case "count":
                return model.count(with[0]);
            default:
                return model.finding(with[0], with[1]);
        }
    }

    /** The first thing that looks otherwise than it should, or null. */
    private String difference() {
        if (volume.code() != model.code()) {
            return "code()";
        }
        for (int what = 0; what < 8; what++) {
            if (volume.count(what) != model.count(what)) {
                return "count(" + what + ")";
            }
        }
        if (volume.findings(false) != model.findings(false)) {
            return "findings(false)";
        }
        for (int k = 0; k < 4 * model.findings(false); k++) {
            if (volume.finding(k / 4, k % 4) != model.finding(k / 4, k % 4)) {
                return "finding(" + k / 4 + ", " + k % 4 + ")";
            }
        }
        String first = driveDifference(0);
        return first != null ? first : driveDifference(1);
    }

    private String driveDifference(int d) {
        for (int p = 0; p < 8; p++) {
            if (volume.isRight(d, p) != model.isRight(d, p)) {
                return "isRight(" + d + ", " + p + ")";
            }
        }
        for (int b = 0; b < 64; b++) {
            if (volume.expected(d, b) != model.expected(d, b) || volume.verdict(d, b) != model.verdict(d, b)) {
                return "expected or verdict(" + d + ", " + b + ")";
            }
        }
        for (int k = 0; k < 72 * 11; k++) {
            if (volume.raw(d, k / 11, k % 11) != model.raw(d, k / 11, k % 11)) {
                return "raw(" + d + ", " + k / 11 + ", " + k % 11 + ")";
            }
        }
        return null;
    }
}

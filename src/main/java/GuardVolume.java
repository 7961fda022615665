import java.util.Arrays;

/** A volume on two drives whose writes may fail without a word; ../shared/DOC.md is its document. */
public final class GuardVolume {
    private static final int BLOCKS = 64;
    private static final int WORDS = 8;
    private static final int PAGES = 8;
    private static final int SLOTS = BLOCKS + PAGES;

    private static final int SUM = 8;
    private static final int ADDRESS = 9;
    private static final int VERSION = 10;
    private static final int ROW = 11;

    private static final int GOOD = 0;
    private static final int TORN = 1;
    private static final int FOREIGN = 2;
    private static final int UNKNOWN = 3;
    private static final int OLD = 4;
    private static final int NEWER = 5;
    private static final int WRONG_LIST = 6;
    private static final int NONE_GOOD = 7;

    private static final int PLAN_DROPPED = 0;
    private static final int PLAN_MISPLACED = 1;
    private static final int PLAN_TORN = 2;
    private static final int MOST_PLANS = 8;
    private static final int FARTHEST_PLAN = 50;

    private static final int CODE_NONE = 2;
    private static final int WRITE_CUT = 3;
    private static final int LAST_VERSION = 60;
    private static final int FARTHEST_CUT = 100;
    private static final int MOST_FINDINGS = 100;
    private static final int FINDING = 4;
    private static final int NONE = -1;

    private final Drive drive0 = new Drive();
    private final Drive drive1 = new Drive();
    private final Power power = new Power();
    private final Journal journal = new Journal();
    private final Findings found = new Findings();
    /** The version of page p on drive e stands at e * PAGES + p. */
    private final int[] memory = new int[2 * PAGES];
    private int lastCode = 0;
    private int nextScrubbed = 0;

    // Made once and used by every call, so that no call makes an object.
    private final int[] row = new int[ROW];
    private final int[] listWords = new int[WORDS];
    private final int[] copyWords = new int[WORDS];

    public GuardVolume() {
    }

    public int write(int block, int word, int v)
            throws IndexOutOfBoundsException, IllegalStateException, UnsupportedOperationException {
        if (!isBelow(block, BLOCKS) || !isBelow(word, WORDS)) {
            throw new IndexOutOfBoundsException();
        }
        if (!power.on) {
            throw new IllegalStateException();
        }
        int from = goodCopy(block);
        if (from != NONE && driveOf(from).at(block, VERSION) == LAST_VERSION) {
            throw new UnsupportedOperationException();
        }
        lastCode = codeOf(from);
        if (from == NONE) {
            return CODE_NONE;
        }
        driveOf(from).giveWords(block, journal.words);
        journal.words[word] = v;
        journal.version = driveOf(from).at(block, VERSION) + 1;
        journal.block = block;
        return putNotedBlock() ? 0 : WRITE_CUT;
    }

    public int read(int block, int word) throws IndexOutOfBoundsException, IllegalStateException {
        if (!isBelow(block, BLOCKS) || !isBelow(word, WORDS)) {
            throw new IndexOutOfBoundsException();
        }
        if (!power.on) {
            throw new IllegalStateException();
        }
        int from = goodCopy(block);
        lastCode = codeOf(from);
        return from == NONE ? 0 : driveOf(from).at(block, word);
    }

    public int code() {
        return lastCode;
    }

    public void plan(int drive, int n, int kind, int x)
            throws IndexOutOfBoundsException, IllegalArgumentException, UnsupportedOperationException {
        if (!isBelow(drive, 2)) {
            throw new IndexOutOfBoundsException();
        }
        if (n < 1 || n > FARTHEST_PLAN || !isPlan(kind, x) || driveOf(drive).planOfNext(n) != NONE) {
            throw new IllegalArgumentException();
        }
        if (driveOf(drive).plans == MOST_PLANS) {
            throw new UnsupportedOperationException();
        }
        driveOf(drive).addPlan(n, kind, x);
    }

    public void cutAfter(int n) throws IllegalArgumentException, IllegalStateException {
        if (n < Power.NO_CUT || n > FARTHEST_CUT) {
            throw new IllegalArgumentException();
        }
        if (!power.on) {
            throw new IllegalStateException();
        }
        power.writesLeft = n;
    }

    public int start() throws IllegalStateException {
        if (power.on) {
            throw new IllegalStateException();
        }
        power.on = true;
        power.writesLeft = Power.NO_CUT;
        int before = drive0.writes + drive1.writes;
        if (journal.block != NONE) {
            putNotedBlock();
        }
        return drive0.writes + drive1.writes - before;
    }

    public int scrub(int n) throws IllegalStateException, IllegalArgumentException {
        if (!power.on) {
            throw new IllegalStateException();
        }
        if (n < 0 || n > BLOCKS) {
            throw new IllegalArgumentException();
        }
        int before = found.told;
        for (int i = 0; i < n && scrubBlock(nextScrubbed); i++) {
            nextScrubbed = (nextScrubbed + 1) % BLOCKS;
        }
        return found.told - before;
    }

    public int findings(boolean clear) {
        int kept = found.kept;
        if (clear) {
            found.kept = 0;
        }
        return kept;
    }

    public int finding(int k, int what) throws IndexOutOfBoundsException {
        if (!isBelow(k, found.kept) || !isBelow(what, FINDING)) {
            throw new IndexOutOfBoundsException();
        }
        return found.numbers[k * FINDING + what];
    }

    public int expected(int drive, int block) throws IndexOutOfBoundsException {
        if (!isBelow(drive, 2) || !isBelow(block, BLOCKS)) {
            throw new IndexOutOfBoundsException();
        }
        return expectedVersion(drive, block);
    }

    public int verdict(int drive, int block) throws IndexOutOfBoundsException {
        if (!isBelow(drive, 2) || !isBelow(block, BLOCKS)) {
            throw new IndexOutOfBoundsException();
        }
        return judge(drive, block);
    }

    public boolean isRight(int drive, int p) throws IndexOutOfBoundsException {
        if (!isBelow(drive, 2) || !isBelow(p, PAGES)) {
            throw new IndexOutOfBoundsException();
        }
        return isPageRight(drive, p);
    }

    public int raw(int drive, int slot, int k) throws IndexOutOfBoundsException {
        if (!isBelow(drive, 2) || !isBelow(slot, SLOTS) || !isBelow(k, ROW)) {
            throw new IndexOutOfBoundsException();
        }
        return driveOf(drive).at(slot, k);
    }

    public void replace(int drive) throws IndexOutOfBoundsException, IllegalStateException {
        if (!isBelow(drive, 2)) {
            throw new IndexOutOfBoundsException();
        }
        if (!power.on) {
            throw new IllegalStateException();
        }
        driveOf(drive).wipe();
    }

    public int rebuild(int drive) throws IndexOutOfBoundsException, IllegalStateException {
        if (!isBelow(drive, 2)) {
            throw new IndexOutOfBoundsException();
        }
        if (!power.on) {
            throw new IllegalStateException();
        }
        int lost = 0;
        for (int block = 0; block < BLOCKS; block++) {
            int from = goodCopy(block);
            if (from == NONE) {
                lost++;
            } else if (!rebuildBlock(drive, block, from)) {
                return NONE;
            }
        }
        return lost;
    }

    public int count(int what) throws IndexOutOfBoundsException {
        switch (what) {
            case 0:
                return drive0.writes;
            case 1:
                return drive1.writes;
            case 2:
                return drive0.plans;
            case 3:
                return drive1.plans;
            case 4:
                return power.on ? 1 : 0;
            case 5:
                return journal.block;
            case 6:
                return nextScrubbed;
            case 7:
                return greatestPageVersion();
            default:
                throw new IndexOutOfBoundsException();
        }
    }

    private static boolean isBelow(int k, int bound) {
        return k >= 0 && k < bound;
    }

    private static boolean isPlan(int kind, int x) {
        switch (kind) {
            case PLAN_DROPPED:
                return true;
            case PLAN_MISPLACED:
                return isBelow(x, SLOTS);
            case PLAN_TORN:
                return x >= 1 && x < ROW;
            default:
                return false;
        }
    }

    /** The sum that the row beginning at a place among the numbers should have. */
    private static int sumOf(int[] numbers, int from) {
        int s = 0;
        for (int k = 0; k < ROW; k++) {
            if (k != SUM) {
                s = ((s << 5) | (s >>> 27)) + numbers[from + k];
            }
        }
        return s;
    }

    private Drive driveOf(int drive) {
        return drive == 0 ? drive0 : drive1;
    }

    private boolean isPageRight(int drive, int page) {
        Drive holder = driveOf(drive);
        int slot = BLOCKS + page;
        return holder.at(slot, SUM) == sumOf(holder.numbers, slot * ROW)
                && holder.at(slot, ADDRESS) == slot
                && holder.at(slot, VERSION) == memory[drive * PAGES + page];
    }

    /** The drive whose page is to be believed about the versions of copies d: NONE if neither is right. */
    private int listDrive(int d, int page) {
        if (isPageRight(1 - d, page)) {
            return 1 - d;
        }
        return isPageRight(d, page) ? d : NONE;
    }

    private int expectedVersion(int d, int block) {
        int page = block / WORDS;
        int lister = listDrive(d, page);
        return lister == NONE ? NONE : driveOf(lister).at(BLOCKS + page, block % WORDS);
    }

    private int judge(int d, int block) {
        Drive holder = driveOf(d);
        if (holder.at(block, SUM) != sumOf(holder.numbers, block * ROW)) {
            return TORN;
        }
        if (holder.at(block, ADDRESS) != block) {
            return FOREIGN;
        }
        int due = expectedVersion(d, block);
        if (due == NONE) {
            return UNKNOWN;
        }
        int version = holder.at(block, VERSION);
        if (version < due) {
            return OLD;
        }
        return version > due ? NEWER : GOOD;
    }

    private int goodCopy(int block) {
        if (judge(0, block) == GOOD) {
            return 0;
        }
        return judge(1, block) == GOOD ? 1 : NONE;
    }

    private static int codeOf(int copy) {
        return copy == NONE ? CODE_NONE : copy;
    }

    /** False if power went off instead: then nothing more may be done by the call. */
    private boolean store(int drive, int slot, int[] words, int version) {
        if (!power.allowsWrite()) {
            return false;
        }
        System.arraycopy(words, 0, row, 0, WORDS);
        row[ADDRESS] = slot;
        row[VERSION] = version;
        row[SUM] = sumOf(row, 0);
        driveOf(drive).take(slot, row);
        return true;
    }

    /** Makes and stores the list of copy d; the memory follows only behind the write, for a cut may come instead. */
    private boolean storeList(int d, int block, int version) {
        int page = block / WORDS;
        int lister = listDrive(d, page);
        if (lister == NONE) {
            Arrays.fill(listWords, 0);
        } else {
            driveOf(lister).giveWords(BLOCKS + page, listWords);
        }
        listWords[block % WORDS] = version;
        int place = (1 - d) * PAGES + page;
        int pageVersion = memory[place] + 1;
        if (!store(1 - d, BLOCKS + page, listWords, pageVersion)) {
            return false;
        }
        memory[place] = pageVersion;
        return true;
    }

    private boolean putCopy(int d, int block, int[] words, int version) {
        return store(d, block, words, version) && storeList(d, block, version);
    }

    /** The journal's own words are put, so that a cut write and its repetition are the same. */
    private boolean putNotedBlock() {
        for (int d = 0; d < 2; d++) {
            if (!putCopy(d, journal.block, journal.words, journal.version)) {
                return false;
            }
        }
        journal.block = NONE;
        return true;
    }

    private boolean scrubBlock(int block) {
        return mendList(0, block) && mendList(1, block) && mendCopies(block);
    }

    private boolean mendList(int d, int block) {
        int page = block / WORDS;
        if (isPageRight(1 - d, page) || !isPageRight(d, page)) {
            return true;
        }
        int slot = BLOCKS + page;
        found.tell(block, 1 - d, WRONG_LIST, driveOf(1 - d).at(slot, ADDRESS));
        return storeList(d, block, driveOf(d).at(slot, block % WORDS));
    }

    private boolean mendCopies(int block) {
        int verdict0 = judge(0, block);
        int verdict1 = judge(1, block);
        if (verdict0 == GOOD && verdict1 == GOOD) {
            return true;
        }
        if (verdict0 != GOOD && verdict1 != GOOD) {
            found.tell(block, NONE, NONE_GOOD, NONE);
            return true;
        }
        int bad = verdict0 == GOOD ? 1 : 0;
        found.tell(block, bad, verdict0 == GOOD ? verdict1 : verdict0, driveOf(bad).at(block, ADDRESS));
        driveOf(1 - bad).giveWords(block, copyWords);
        return store(bad, block, copyWords, driveOf(1 - bad).at(block, VERSION));
    }

    private boolean rebuildBlock(int d, int block, int from) {
        driveOf(from).giveWords(block, copyWords);
        int version = driveOf(from).at(block, VERSION);
        if (!putCopy(d, block, copyWords, version)) {
            return false;
        }
        return isPageRight(d, block / WORDS) || storeList(1 - d, block, version);
    }

    private int greatestPageVersion() {
        int greatest = 0;
        for (int i = 0; i < memory.length; i++) {
            greatest = Math.max(greatest, memory[i]);
        }
        return greatest;
    }

    private static final class Drive {
        private final int[] numbers = new int[SLOTS * ROW];
        /** Plans are kept by the number of the write that fails, so that no write has to count them down. */
        private final int[] planWrite = new int[MOST_PLANS];
        private final int[] planKind = new int[MOST_PLANS];
        private final int[] planX = new int[MOST_PLANS];
        private int plans = 0;
        private int writes = 0;

        private Drive() {
            int[] first = new int[ROW];
            for (int slot = 0; slot < SLOTS; slot++) {
                first[ADDRESS] = slot;
                first[SUM] = sumOf(first, 0);
                System.arraycopy(first, 0, numbers, slot * ROW, ROW);
            }
        }

        private int at(int slot, int k) {
            return numbers[slot * ROW + k];
        }

        private void giveWords(int slot, int[] words) {
            System.arraycopy(numbers, slot * ROW, words, 0, WORDS);
        }

        private void wipe() {
            Arrays.fill(numbers, 0);
            plans = 0;
        }

        private int planOfNext(int n) {
            for (int i = 0; i < plans; i++) {
                if (planWrite[i] == writes + n) {
                    return i;
                }
            }
            return NONE;
        }

        private void addPlan(int n, int kind, int x) {
            planWrite[plans] = writes + n;
            planKind[plans] = kind;
            planX[plans] = x;
            plans++;
        }

        private void removePlan(int i) {
            plans--;
            planWrite[i] = planWrite[plans];
            planKind[i] = planKind[plans];
            planX[i] = planX[plans];
        }

        private void take(int slot, int[] row) {
            int i = planOfNext(1);
            writes++;
            if (i == NONE) {
                keep(slot, row, ROW);
                return;
            }
            int kind = planKind[i];
            int x = planX[i];
            removePlan(i);
            if (kind == PLAN_MISPLACED) {
                keep(x, row, ROW);
            } else if (kind == PLAN_TORN) {
                keep(slot, row, x);
            }
        }

        private void keep(int slot, int[] row, int length) {
            System.arraycopy(row, 0, numbers, slot * ROW, length);
        }
    }

    private static final class Power {
        private static final int NO_CUT = -1;
        private boolean on = true;
        private int writesLeft = NO_CUT;

        private boolean allowsWrite() {
            if (writesLeft == 0) {
                on = false;
                return false;
            }
            if (writesLeft > 0) {
                writesLeft--;
            }
            return true;
        }
    }

    private static final class Journal {
        private final int[] words = new int[WORDS];
        private int block = NONE;
        private int version = 0;
    }

    private static final class Findings {
        private final int[] numbers = new int[MOST_FINDINGS * FINDING];
        private int kept = 0;
        /** How many there were ever, as scrub() counts those that found no room, too. */
        private int told = 0;

        private void tell(int block, int drive, int sort, int address) {
            told++;
            if (kept == MOST_FINDINGS) {
                return;
            }
            int from = kept * FINDING;
            numbers[from] = block;
            numbers[from + 1] = drive;
            numbers[from + 2] = sort;
            numbers[from + 3] = address;
            kept++;
        }
    }
}

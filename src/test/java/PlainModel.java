import java.util.ArrayList;
import java.util.HashMap;
import java.util.List;
import java.util.Map;

/** The document told once more, in a form as unlike the program's as may be: it is compared with it in long runs. */
final class PlainModel {
    private static final class Cut extends Exception {
        private static final long serialVersionUID = 1L;
    }

    private record Plan(int kind, int x) {
    }

    private record Noted(int block, int[] words, int version) {
    }

    private final int[][][] rows = new int[2][72][11];
    private final int[][] memory = new int[2][8];
    private final List<Map<Integer, Plan>> plans = List.of(new HashMap<>(), new HashMap<>());
    private final int[] writes = new int[2];
    private final List<int[]> kept = new ArrayList<>();
    private Noted journal = null;
    private boolean on = true;
    private Integer cut = null;
    private int code = 0;
    private int next = 0;

    PlainModel() {
        for (int drive = 0; drive < 2; drive++) {
            for (int slot = 0; slot < 72; slot++) {
                rows[drive][slot] = made(new int[8], slot, 0);
            }
        }
    }

    int write(int block, int word, int v) {
        within(block, 64);
        within(word, 8);
        needPower();
        int[] copy = reading(block);
        if (copy != null && copy[10] == 60) {
            throw new UnsupportedOperationException();
        }
        code = codeOf(block);
        if (copy == null) {
            return 2;
        }
        int[] words = words(copy);
        words[word] = v;
        journal = new Noted(block, words, copy[10] + 1);
        try {
            putJournal();
            return 0;
        } catch (Cut e) {
            return 3;
        }
    }

    int read(int block, int word) {
        within(block, 64);
        within(word, 8);
        needPower();
        code = codeOf(block);
        int[] copy = reading(block);
        return copy == null ? 0 : copy[word];
    }

    int code() {
        return code;
    }

    void plan(int drive, int n, int kind, int x) {
        within(drive, 2);
        boolean kindFits = kind == 0 || kind == 1 && x >= 0 && x <= 71 || kind == 2 && x >= 1 && x <= 10;
        if (n < 1 || n > 50 || !kindFits || plans.get(drive).containsKey(writes[drive] + n)) {
            throw new IllegalArgumentException();
        }
        if (plans.get(drive).size() == 8) {
            throw new UnsupportedOperationException();
        }
        plans.get(drive).put(writes[drive] + n, new Plan(kind, x));
    }

    void cutAfter(int n) {
        if (n < -1 || n > 100) {
            throw new IllegalArgumentException();
        }
        needPower();
        cut = n == -1 ? null : n;
    }

    int start() {
        if (on) {
            throw new IllegalStateException();
        }
        on = true;
        cut = null;
        if (journal == null) {
            return 0;
        }
        try {
            putJournal();
        } catch (Cut e) {
            throw new AssertionError(e);
        }
        return 4;
    }

    int scrub(int n) {
        needPower();
        if (n < 0 || n > 64) {
            throw new IllegalArgumentException();
        }
        int[] told = new int[1];
        try {
            for (int i = 0; i < n; i++) {
                scrubOne(next, told);
                next = next == 63 ? 0 : next + 1;
            }
        } catch (Cut e) {
            return told[0];
        }
        return told[0];
    }

    int findings(boolean clear) {
        int size = kept.size();
        if (clear) {
            kept.clear();
        }
        return size;
    }

    int finding(int k, int what) {
        within(k, kept.size());
        within(what, 4);
        return kept.get(k)[what];
    }

    int expected(int d, int block) {
        within(d, 2);
        within(block, 64);
        int[] page = believed(d, block / 8);
        return page == null ? -1 : page[block % 8];
    }

    int verdict(int d, int block) {
        within(d, 2);
        within(block, 64);
        int[] row = rows[d][block];
        int due = expected(d, block);
        boolean[] signs = {!whole(row), row[9] != block, due == -1, row[10] < due, row[10] > due};
        for (int i = 0; i < signs.length; i++) {
            if (signs[i]) {
                return i + 1;
            }
        }
        return 0;
    }

    boolean isRight(int drive, int p) {
        within(drive, 2);
        within(p, 8);
        int[] row = rows[drive][64 + p];
        return whole(row) && row[9] == 64 + p && row[10] == memory[drive][p];
    }

    int raw(int drive, int slot, int k) {
        within(drive, 2);
        within(slot, 72);
        within(k, 11);
        return rows[drive][slot][k];
    }

    void replace(int drive) {
        within(drive, 2);
        needPower();
        rows[drive] = new int[72][11];
        plans.get(drive).clear();
    }

    int rebuild(int drive) {
        within(drive, 2);
        needPower();
        int lost = 0;
        try {
            for (int block = 0; block < 64; block++) {
                int[] good = reading(block);
                if (good == null) {
                    lost++;
                    continue;
                }
                int[] words = words(good);
                int version = good[10];
                putCopy(drive, block, words, version);
                if (!isRight(drive, block / 8)) {
                    putList(1 - drive, block, version);
                }
            }
        } catch (Cut e) {
            return -1;
        }
        return lost;
    }

    int count(int what) {
        within(what, 8);
        if (what < 2) {
            return writes[what];
        }
        if (what < 4) {
            return plans.get(what - 2).size();
        }
        if (what == 4) {
            return on ? 1 : 0;
        }
        if (what == 5) {
            return journal == null ? -1 : journal.block();
        }
        if (what == 6) {
            return next;
        }
        int greatest = 0;
        for (int[] versions : memory) {
            for (int version : versions) {
                greatest = Math.max(greatest, version);
            }
        }
        return greatest;
    }

    private static void within(int k, int bound) {
        if (k < 0 || k >= bound) {
            throw new IndexOutOfBoundsException();
        }
    }

    private void needPower() {
        if (!on) {
            throw new IllegalStateException();
        }
    }

    private static int[] words(int[] row) {
        int[] words = new int[8];
        for (int i = 0; i < 8; i++) {
            words[i] = row[i];
        }
        return words;
    }

    private static int sum(int[] row) {
        long s = 0;
        int[] order = {0, 1, 2, 3, 4, 5, 6, 7, 9, 10};
        for (int k : order) {
            long turned = (s * 32 + s / (1L << 27)) % (1L << 32);
            s = (turned + (row[k] & 0xFFFFFFFFL)) % (1L << 32);
        }
        return (int) s;
    }

    private static boolean whole(int[] row) {
        return sum(row) == row[8];
    }

    private static int[] made(int[] words, int address, int version) {
        int[] row = new int[11];
        for (int i = 0; i < 8; i++) {
            row[i] = words[i];
        }
        row[9] = address;
        row[10] = version;
        row[8] = sum(row);
        return row;
    }

    private int[] believed(int d, int page) {
        if (isRight(1 - d, page)) {
            return rows[1 - d][64 + page];
        }
        return isRight(d, page) ? rows[d][64 + page] : null;
    }

    private int codeOf(int block) {
        return verdict(0, block) == 0 ? 0 : verdict(1, block) == 0 ? 1 : 2;
    }

    private int[] reading(int block) {
        int from = codeOf(block);
        return from == 2 ? null : rows[from][block];
    }

    private void store(int drive, int slot, int[] row) throws Cut {
        if (cut != null && cut == 0) {
            on = false;
            throw new Cut();
        }
        if (cut != null) {
            cut--;
        }
        writes[drive]++;
        Plan plan = plans.get(drive).remove(writes[drive]);
        if (plan == null) {
            rows[drive][slot] = row.clone();
        } else if (plan.kind() == 1) {
            rows[drive][plan.x()] = row.clone();
        } else if (plan.kind() == 2) {
            for (int k = 0; k < plan.x(); k++) {
                rows[drive][slot][k] = row[k];
            }
        }
    }

    private void putList(int d, int block, int version) throws Cut {
        int page = block / 8;
        int[] source = believed(d, page);
        int[] list = source == null ? new int[8] : words(source);
        list[block % 8] = version;
        store(1 - d, 64 + page, made(list, 64 + page, memory[1 - d][page] + 1));
        memory[1 - d][page]++;
    }

    private void putCopy(int d, int block, int[] words, int version) throws Cut {
        store(d, block, made(words, block, version));
        putList(d, block, version);
    }

    private void putJournal() throws Cut {
        putCopy(0, journal.block(), journal.words(), journal.version());
        putCopy(1, journal.block(), journal.words(), journal.version());
        journal = null;
    }

    private void tell(int[] told, int... finding) {
        told[0]++;
        if (kept.size() < 100) {
            kept.add(finding);
        }
    }

    private void scrubOne(int block, int[] told) throws Cut {
        int page = block / 8;
        for (int d = 0; d < 2; d++) {
            if (!isRight(1 - d, page) && isRight(d, page)) {
                tell(told, block, 1 - d, 6, rows[1 - d][64 + page][9]);
                putList(d, block, rows[d][64 + page][block % 8]);
            }
        }
        int good = 0;
        int bad = -1;
        for (int d = 0; d < 2; d++) {
            if (verdict(d, block) == 0) {
                good++;
            } else {
                bad = d;
            }
        }
        if (good == 1) {
            tell(told, block, bad, verdict(bad, block), rows[bad][block][9]);
            int[] from = rows[1 - bad][block];
            store(bad, block, made(words(from), block, from[10]));
        } else if (good == 0) {
            tell(told, block, -1, 7, -1);
        }
    }
}

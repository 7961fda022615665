/** What of a volume can be seen by calls that change nothing. */
final class Look {
    static String all(GuardVolume volume) {
        StringBuilder text = new StringBuilder();
        text.append("code ").append(volume.code());
        for (int what = 0; what < 8; what++) {
            text.append(" count").append(what).append(' ').append(volume.count(what));
        }
        int kept = volume.findings(false);
        text.append(" findings ").append(kept);
        for (int k = 0; k < kept; k++) {
            text.append(" finding").append(k);
            for (int what = 0; what < 4; what++) {
                text.append(' ').append(volume.finding(k, what));
            }
        }
        for (int drive = 0; drive < 2; drive++) {
            appendDrive(text, volume, drive);
        }
        return text.toString();
    }

    private static void appendDrive(StringBuilder text, GuardVolume volume, int drive) {
        for (int page = 0; page < 8; page++) {
            text.append(" right").append(drive).append('.').append(page).append(' ')
                    .append(volume.isRight(drive, page));
        }
        for (int block = 0; block < 64; block++) {
            text.append(" judged").append(drive).append('.').append(block).append(' ')
                    .append(volume.expected(drive, block)).append(' ').append(volume.verdict(drive, block));
        }
        text.append(rows(volume, drive));
    }

    static String rows(GuardVolume volume, int drive) {
        StringBuilder text = new StringBuilder();
        for (int slot = 0; slot < 72; slot++) {
            text.append(" row").append(drive).append('.').append(slot);
            for (int k = 0; k < 11; k++) {
                text.append(' ').append(volume.raw(drive, slot, k));
            }
        }
        return text.toString();
    }

    static String row(GuardVolume volume, int drive, int slot) {
        StringBuilder text = new StringBuilder();
        for (int k = 0; k < 11; k++) {
            text.append(k == 0 ? "" : " ").append(volume.raw(drive, slot, k));
        }
        return text.toString();
    }

    /** A row as it should be written by hand: the sum is worked out here, apart from the program. */
    static String wholeRow(int[] words, int address, int version) {
        int s = 0;
        StringBuilder text = new StringBuilder();
        for (int word : words) {
            s = Integer.rotateLeft(s, 5) + word;
            text.append(word).append(' ');
        }
        s = Integer.rotateLeft(s, 5) + address;
        s = Integer.rotateLeft(s, 5) + version;
        return text.append(s).append(' ').append(address).append(' ').append(version).toString();
    }
}

import java.util.Arrays;
import java.util.function.Supplier;

/** All that stands on both sides, two headers and the words of all blocks, and what is at hand. */
final class Picture {
    static final int NONE = MirrorGroup.NONE;
    private static final int SIDES = 2;
    private static final int VOLUMES = 6;
    private static final int BLOCKS = 64;
    private static final int WORDS = 4;
    private static final int ITEMS = 24;

    private final int[][] headers = new int[SIDES][ITEMS];
    private final int[][] words = new int[SIDES][VOLUMES * BLOCKS * WORDS];
    /** As a header, but its number, which no call tells: that place stays 0. */
    private final int[] atHand = new int[ITEMS];

    private Picture() {
    }

    /** The maker makes the same object each time, as 512 calls do not reach for all of it. */
    static Picture of(Supplier<MirrorGroup> maker) {
        Picture picture = new Picture();
        picture.lookAtHeaders(maker.get());
        for (int volume = 0; volume < VOLUMES; volume++) {
            for (int side = 0; side < SIDES; side++) {
                picture.lookAtBlocks(maker.get(), volume, side);
            }
        }
        return picture;
    }

    private void lookAtHeaders(MirrorGroup group) {
        for (int what = 0; what < ITEMS; what++) {
            headers[0][what] = group.head(0, what);
            headers[1][what] = group.head(1, what);
        }
        atHand[1] = group.volumes();
        for (int volume = 0; volume < VOLUMES; volume++) {
            atHand[2 + volume] = group.state(volume);
            atHand[8 + volume] = group.marked(volume, 0);
            atHand[14 + volume] = group.marked(volume, 1);
        }
        for (int i = 0; i < 4; i++) {
            atHand[20 + i] = group.windowed(i);
        }
    }

    private void lookAtBlocks(MirrorGroup group, int volume, int side) {
        for (int block = 0; block < BLOCKS; block++) {
            for (int word = 0; word < WORDS; word++) {
                words[side][wordAt(volume, block, word)] = group.raw(volume, side, block, word);
            }
        }
    }

    private static int wordAt(int volume, int block, int word) {
        return (volume * BLOCKS + block) * WORDS + word;
    }

    /** A header as head() answers it; volumes are "state,map0,map1" with blanks between them. */
    static int[] row(int number, String volumes, int... window) {
        int[] row = new int[ITEMS];
        Arrays.fill(row, NONE);
        String[] each = volumes.isEmpty() ? new String[0] : volumes.split(" ");
        row[0] = number;
        row[1] = each.length;
        for (int volume = 0; volume < each.length; volume++) {
            String[] parts = each[volume].split(",");
            row[2 + volume] = Integer.parseInt(parts[0]);
            row[8 + volume] = Integer.parseInt(parts[1]);
            row[14 + volume] = Integer.parseInt(parts[2]);
        }
        System.arraycopy(window, 0, row, 20, window.length);
        return row;
    }

    void setHeader(int side, int[] row) {
        System.arraycopy(row, 0, headers[side], 0, ITEMS);
    }

    void setBlock(int volume, int side, int block, int[] with) {
        System.arraycopy(with, 0, words[side], wordAt(volume, block, 0), WORDS);
    }

    /** While power is on, both headers and the one at hand are the same when a call has ended. */
    void setAtHand(boolean powered) {
        for (int what = 1; what < ITEMS; what++) {
            atHand[what] = powered ? headers[0][what] : NONE;
        }
    }

    static void dueSame(String what, Picture got, Picture want) {
        for (int side = 0; side < SIDES; side++) {
            dueSameRow(what + ", header on side " + side, got.headers[side], want.headers[side]);
            dueSameWords(what, side, got.words[side], want.words[side]);
        }
        dueSameRow(what + ", header at hand", got.atHand, want.atHand);
    }

    private static void dueSameRow(String what, int[] got, int[] want) {
        Check.dueText(what, Arrays.toString(got), Arrays.toString(want));
    }

    private static void dueSameWords(String what, int side, int[] got, int[] want) {
        int other = Arrays.mismatch(got, want);
        Check.due(what + ", side " + side + ", a word not as due", other, NONE);
        if (other != NONE) {
            int block = other / WORDS;
            String where = what + ", volume " + block / BLOCKS + ", side " + side + ", block "
                    + block % BLOCKS + ", word " + other % WORDS;
            Check.due(where, got[other], want[other]);
        }
    }
}

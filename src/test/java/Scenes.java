import java.util.function.Consumer;

/** What is done to a new object before a test goes on from there. */
final class Scenes {
    /** Below and above all that counts from 0. */
    static final int[] OUTSIDE = {-1, Integer.MIN_VALUE, Integer.MAX_VALUE};

    private Scenes() {
    }

    static MirrorGroup after(Consumer<MirrorGroup> scene) {
        MirrorGroup group = new MirrorGroup();
        scene.accept(group);
        return group;
    }

    /** Header number: count. */
    static Consumer<MirrorGroup> joined(int count) {
        return group -> {
            for (int i = 0; i < count; i++) {
                group.makeVolume();
            }
        };
    }

    /** Header number: count + 1. */
    static Consumer<MirrorGroup> split(int count) {
        return joined(count).andThen(group -> group.split());
    }

    /**
     * Volume 0 rejoins: side 0 has changed block 0, side 1 has changed block 16.
     * Header: number 5, state 2 + winner, maps 1 and 4.
     */
    static Consumer<MirrorGroup> rejoining(int winner) {
        return split(1).andThen(group -> {
            group.fill(0, 0, 0, 10, 11, 12, 13);
            group.fill(0, 1, 16, 20, 21, 22, 23);
            group.rejoin(0, winner);
        });
    }

    /** Volumes 0 .. 3: split, rejoining to side 0, to side 1, joined. Header number: 7. */
    static Consumer<MirrorGroup> oneOfEachState() {
        return split(3).andThen(group -> {
            group.rejoin(1, 0);
            group.rejoin(2, 1);
            group.makeVolume();
        });
    }

    /** The window is 0, 1, 2, 3, the oldest first. Header number: count + 4. */
    static Consumer<MirrorGroup> fullWindow(int count) {
        return joined(count).andThen(group -> {
            for (int region = 0; region < 4; region++) {
                group.write(0, 0, 8 * region, 0, 1);
            }
        });
    }

    /**
     * Six volumes with nothing left empty: volume 0 rejoins to side 0 with place 0 in the window,
     * the others are split, and volume 5 has both maps full. Header number: 25.
     */
    static Consumer<MirrorGroup> sixWithFullMaps() {
        return split(6).andThen(group -> {
            for (int region = 0; region < 8; region++) {
                group.write(5, 0, 8 * region, 0, 1);
                group.write(5, 1, 8 * region, 0, 2);
            }
            group.rejoin(0, 0);
            group.write(0, 0, 0, 0, 3);
        });
    }

    /** The next call to want a write behind so many others is cut; this call is it. */
    static Consumer<MirrorGroup> cut(int writes, Consumer<MirrorGroup> call) {
        return group -> {
            group.cutAfter(writes);
            Check.dueThrow("the call that is cut", Check.STATE, () -> call.accept(group));
        };
    }

    /** Power fails before anything is written. */
    static Consumer<MirrorGroup> off(Consumer<MirrorGroup> scene) {
        return scene.andThen(cut(0, Scenes::wantWrite));
    }

    private static void wantWrite(MirrorGroup group) {
        if (group.volumes() < 6) {
            group.makeVolume();
        } else {
            group.write(0, 0, 0, 0, 1);
        }
    }

    static void dueWindow(String what, MirrorGroup group, int a, int b, int c, int d) {
        Check.due(what + ", place 0", group.windowed(0), a);
        Check.due(what + ", place 1", group.windowed(1), b);
        Check.due(what + ", place 2", group.windowed(2), c);
        Check.due(what + ", place 3", group.windowed(3), d);
    }

    static void dueBlock(String what, MirrorGroup group, int volume, int side, int block,
            int... words) {
        for (int word = 0; word < 4; word++) {
            String where = what + ", side " + side + ", block " + block + ", word " + word;
            Check.due(where, group.raw(volume, side, block, word), words[word]);
        }
    }
}

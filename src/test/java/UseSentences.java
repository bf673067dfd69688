import java.util.List;
import java.util.function.Consumer;

/** Promises 1 to 5: a new object, makeVolume, write, fill, read. */
final class UseSentences {
    private static final String NO_SUCH = "IndexOutOfBoundsException when there is no such volume, "
            + "block or word (0 .. 3), or, in a SPLIT one, no such side.";
    private static final String LIKEWISE = "IndexOutOfBoundsException likewise.";

    private UseSentences() {
    }

    static List<Sentence> all() {
        return List.of(
            new Sentence("Promise 1", "No volumes;", UseSentences::promise1NoVolumes),
            new Sentence("Promise 1", "power is on, nothing is to fail.",
                UseSentences::promise1NothingIsToFail),
            new Sentence("Promise 2",
                "One more volume, JOINED, with empty maps: a header write.",
                UseSentences::promise2OneMoreVolume),
            new Sentence("Promise 2", "Its number;", UseSentences::promise2ItsNumber),
            new Sentence("Promise 2", "Its number;", UseSentences::promise2NumberBehindACut),
            new Sentence("Promise 2", "NONE, and nothing is done, when there are 6.",
                UseSentences::promise2NoneWhenThereAreSix),
            new Sentence("Promise 3", "A word of a block becomes v.",
                UseSentences::promise3EachWordOfABlock),
            new Sentence("Promise 3", "A word of a block becomes v.",
                UseSentences::promise3SmallestAndGreatestV),
            new Sentence("Promise 3", "The side counts in a SPLIT volume alone.",
                UseSentences::promise3SideDoesNotCount),
            new Sentence("Promise 3", "The side counts in a SPLIT volume alone.",
                UseSentences::promise3SideCountsInASplitOne),
            new Sentence("Promise 3", NO_SUCH, UseSentences::promise3NoSuchVolume),
            new Sentence("Promise 3", NO_SUCH, UseSentences::promise3NoSuchBlock),
            new Sentence("Promise 3", NO_SUCH, UseSentences::promise3NoSuchWord),
            new Sentence("Promise 3", NO_SUCH, UseSentences::promise3NoSuchSideInASplitOne),
            new Sentence("Promise 4", "All words of a block, at once.",
                UseSentences::promise4AllWordsAtOnce),
            new Sentence("Promise 4", "All words of a block, at once.",
                UseSentences::promise4SideDoesNotCount),
            new Sentence("Promise 4", LIKEWISE, UseSentences::promise4NoSuchVolume),
            new Sentence("Promise 4", LIKEWISE, UseSentences::promise4NoSuchBlock),
            new Sentence("Promise 4", LIKEWISE, UseSentences::promise4NoSuchSideInASplitOne),
            new Sentence("Promise 5", "A word of a block.", UseSentences::promise5EachWord),
            new Sentence("Promise 5", "A word of a block.", UseSentences::promise5WritesNothing),
            new Sentence("Promise 5", LIKEWISE, UseSentences::promise5NoSuchVolume),
            new Sentence("Promise 5", LIKEWISE, UseSentences::promise5NoSuchBlock),
            new Sentence("Promise 5", LIKEWISE, UseSentences::promise5NoSuchWord),
            new Sentence("Promise 5", LIKEWISE, UseSentences::promise5NoSuchSideInASplitOne));
    }

    /** Each with a volume 0: joined, split, rejoining to side 0 and to side 1. */
    private static List<Consumer<MirrorGroup>> allStates() {
        return List.of(Scenes.fullWindow(1), Scenes.split(1), Scenes.rejoining(0),
            Scenes.rejoining(1));
    }

    private static List<Consumer<MirrorGroup>> allButSplit() {
        return List.of(Scenes.fullWindow(1), Scenes.rejoining(0), Scenes.rejoining(1));
    }

    private static void promise1NoVolumes() {
        MirrorGroup group = new MirrorGroup();
        Check.due("volumes", group.volumes(), 0);
        Check.due("state", group.state(0), -1);
        Check.due("marked", group.marked(0, 0), -1);
        Check.due("windowed", group.windowed(0), -1);
        Check.due("writes", group.writes(), 0);
        Check.due("copied", group.copied(), 0);
        Check.dueThrow("read", Check.INDEX, () -> group.read(0, 0, 0, 0));
        Check.due("the first one", group.makeVolume(), 0);
    }

    private static void promise1NothingIsToFail() {
        MirrorGroup group = new MirrorGroup();
        Check.due("power", group.power(), 1);
        group.makeVolume();
        for (int call = 0; call < 500; call++) {
            int block = call * 8 % 64;
            Check.dueThrow("call", Check.NOTHING, () -> group.write(0, 0, block, 0, 1));
        }
        Check.due("power", group.power(), 1);
    }

    private static void promise2OneMoreVolume() {
        Writes.header(Picture.row(8, "1,0,0 2,0,0 3,0,0 0,0,0 0,0,0"))
            .areDoneBy(Scenes.oneOfEachState(), group -> group.makeVolume());
        Writes.header(Picture.row(6, "0,0,0 0,0,0", 0, 1, 2, 3))
            .areDoneBy(Scenes.fullWindow(1), group -> group.makeVolume());
        Writes.header(Picture.row(6, "0,0,0 0,0,0 0,0,0 0,0,0 0,0,0 0,0,0"))
            .areDoneBy(Scenes.joined(5), group -> group.makeVolume());
    }

    private static void promise2ItsNumber() {
        MirrorGroup group = new MirrorGroup();
        for (int volume = 0; volume < 6; volume++) {
            Check.due("number", group.makeVolume(), volume);
            group.split();
        }
    }

    private static void promise2NumberBehindACut() {
        MirrorGroup group = Scenes.after(Scenes.joined(1));
        Scenes.cut(0, MirrorGroup::makeVolume).accept(group);
        group.start();
        Check.due("one that was on no side was none", group.makeVolume(), 1);
        Scenes.cut(1, MirrorGroup::makeVolume).accept(group);
        group.start();
        Check.due("one that was on side 0 was one", group.makeVolume(), 3);
    }

    private static void promise2NoneWhenThereAreSix() {
        for (Consumer<MirrorGroup> scene : List.of(Scenes.fullWindow(6), Scenes.split(6))) {
            Writes.none().areDoneBy(scene, group -> {
                Check.due("a seventh", group.makeVolume(), -1);
                Check.due("once more", group.makeVolume(), -1);
            });
        }
        MirrorGroup group = Scenes.after(Scenes.joined(5));
        Check.due("a sixth", group.makeVolume(), 5);
    }

    private static void promise3EachWordOfABlock() {
        for (int block : new int[] {0, 7, 8, 63}) {
            MirrorGroup group = Scenes.after(Scenes.joined(1));
            int[] due = {0, 0, 0, 0};
            for (int word = 0; word < 4; word++) {
                due[word] = 5 + word;
                group.write(0, 0, block, word, 5 + word);
                Scenes.dueBlock("word " + word, group, 0, 0, block, due);
                Scenes.dueBlock("word " + word, group, 0, 1, block, due);
            }
        }
    }

    private static void promise3SmallestAndGreatestV() {
        for (int v : new int[] {Integer.MIN_VALUE, Integer.MAX_VALUE, -1, 0}) {
            MirrorGroup group = Scenes.after(Scenes.joined(1));
            group.fill(0, 0, 0, 1, 1, 1, 1);
            group.write(0, 0, 0, 2, v);
            Scenes.dueBlock("side 0", group, 0, 0, 0, 1, 1, v, 1);
            Scenes.dueBlock("side 1", group, 0, 1, 0, 1, 1, v, 1);
            Check.due("read", group.read(0, 0, 0, 2), v);
        }
    }

    private static void promise3SideDoesNotCount() {
        int[] sides = {1, 2, -1, Integer.MIN_VALUE, Integer.MAX_VALUE};
        for (Consumer<MirrorGroup> scene : allButSplit()) {
            for (int block : new int[] {0, 8, 56}) {
                Picture due = Picture.of(() ->
                    Scenes.after(scene.andThen(group -> group.write(0, 0, block, 1, 9))));
                for (int side : sides) {
                    Picture got = Picture.of(() ->
                        Scenes.after(scene.andThen(group -> group.write(0, side, block, 1, 9))));
                    Picture.dueSame("side " + side + ", block " + block, got, due);
                }
            }
        }
    }

    private static void promise3SideCountsInASplitOne() {
        for (int side = 0; side < 2; side++) {
            MirrorGroup group = Scenes.after(Scenes.split(1));
            group.write(0, side, 63, 3, 9);
            Check.due("that side", group.raw(0, side, 63, 3), 9);
            Check.due("not the other", group.raw(0, 1 - side, 63, 3), 0);
        }
    }

    private static void promise3NoSuchVolume() {
        for (Consumer<MirrorGroup> scene : allStates()) {
            for (int volume : new int[] {1, 5, 6, -1, Integer.MIN_VALUE, Integer.MAX_VALUE}) {
                Writes.dueRefused("volume " + volume, Check.INDEX, scene,
                    group -> group.write(volume, 0, 0, 0, 1));
            }
        }
        Writes.dueRefused("no volume at all", Check.INDEX, Scenes.joined(0),
            group -> group.write(0, 0, 0, 0, 1));
        Writes.dueRefused("volume 6 of 6", Check.INDEX, Scenes.joined(6),
            group -> group.write(6, 0, 0, 0, 1));
    }

    private static void promise3NoSuchBlock() {
        for (Consumer<MirrorGroup> scene : allStates()) {
            for (int block : new int[] {64, -1, Integer.MIN_VALUE, Integer.MAX_VALUE}) {
                Writes.dueRefused("block " + block, Check.INDEX, scene,
                    group -> group.write(0, 0, block, 0, 1));
            }
        }
    }

    private static void promise3NoSuchWord() {
        for (Consumer<MirrorGroup> scene : allStates()) {
            for (int word : new int[] {4, -1, Integer.MIN_VALUE, Integer.MAX_VALUE}) {
                Writes.dueRefused("word " + word, Check.INDEX, scene,
                    group -> group.write(0, 0, 0, word, 1));
                Writes.dueRefused("last block, word " + word, Check.INDEX, scene,
                    group -> group.write(0, 0, 63, word, 1));
            }
        }
    }

    private static void promise3NoSuchSideInASplitOne() {
        for (int side : new int[] {2, -1, Integer.MIN_VALUE, Integer.MAX_VALUE}) {
            Writes.dueRefused("side " + side, Check.INDEX, Scenes.split(1),
                group -> group.write(0, side, 0, 0, 1));
        }
    }

    private static void promise4AllWordsAtOnce() {
        int low = Integer.MIN_VALUE;
        int high = Integer.MAX_VALUE;
        Writes.header(Picture.row(6, "0,0,0", 1, 2, 3, 7))
            .thenBlock(0, 0, 63, low, -1, 0, high)
            .thenBlock(0, 1, 63, low, -1, 0, high)
            .areDoneBy(Scenes.fullWindow(1), group -> group.fill(0, 0, 63, low, -1, 0, high));
        Writes.header(Picture.row(3, "1,0,1"))
            .thenBlock(0, 1, 0, 1, 2, 3, 4)
            .areDoneBy(Scenes.split(1), group -> group.fill(0, 1, 0, 1, 2, 3, 4));
        Writes.block(0, 1, 0, 1, 2, 3, 4)
            .areDoneBy(Scenes.rejoining(1), group -> group.fill(0, 0, 0, 1, 2, 3, 4));
        Writes.header(Picture.row(6, "3,1,4", 1))
            .thenBlock(0, 1, 8, 1, 2, 3, 4)
            .thenBlock(0, 0, 8, 1, 2, 3, 4)
            .areDoneBy(Scenes.rejoining(1), group -> group.fill(0, 0, 8, 1, 2, 3, 4));
    }

    private static void promise4SideDoesNotCount() {
        for (Consumer<MirrorGroup> scene : allButSplit()) {
            Picture due = Picture.of(() ->
                Scenes.after(scene.andThen(group -> group.fill(0, 0, 0, 9, 8, 7, 6))));
            for (int side : new int[] {1, 2, -1, Integer.MIN_VALUE, Integer.MAX_VALUE}) {
                Picture got = Picture.of(() ->
                    Scenes.after(scene.andThen(group -> group.fill(0, side, 0, 9, 8, 7, 6))));
                Picture.dueSame("side " + side, got, due);
            }
        }
    }

    private static void promise4NoSuchVolume() {
        for (Consumer<MirrorGroup> scene : allStates()) {
            for (int volume : new int[] {1, 5, 6, -1, Integer.MIN_VALUE, Integer.MAX_VALUE}) {
                Writes.dueRefused("volume " + volume, Check.INDEX, scene,
                    group -> group.fill(volume, 0, 0, 1, 2, 3, 4));
            }
        }
        Writes.dueRefused("no volume at all", Check.INDEX, Scenes.joined(0),
            group -> group.fill(0, 0, 0, 1, 2, 3, 4));
        Writes.dueRefused("volume 6 of 6", Check.INDEX, Scenes.joined(6),
            group -> group.fill(6, 0, 0, 1, 2, 3, 4));
    }

    private static void promise4NoSuchBlock() {
        for (Consumer<MirrorGroup> scene : allStates()) {
            for (int block : new int[] {64, -1, Integer.MIN_VALUE, Integer.MAX_VALUE}) {
                Writes.dueRefused("block " + block, Check.INDEX, scene,
                    group -> group.fill(0, 0, block, 1, 2, 3, 4));
            }
        }
    }

    private static void promise4NoSuchSideInASplitOne() {
        for (int side : new int[] {2, -1, Integer.MIN_VALUE, Integer.MAX_VALUE}) {
            Writes.dueRefused("side " + side, Check.INDEX, Scenes.split(1),
                group -> group.fill(0, side, 0, 1, 2, 3, 4));
        }
    }

    private static void promise5EachWord() {
        MirrorGroup group = Scenes.after(Scenes.joined(6));
        for (int block : new int[] {0, 63}) {
            for (int volume : new int[] {0, 5}) {
                group.fill(volume, 0, block, volume, block, Integer.MIN_VALUE, Integer.MAX_VALUE);
                Check.due("word 0", group.read(volume, 0, block, 0), volume);
                Check.due("word 1", group.read(volume, 0, block, 1), block);
                Check.due("word 2", group.read(volume, 0, block, 2), Integer.MIN_VALUE);
                Check.due("word 3", group.read(volume, 0, block, 3), Integer.MAX_VALUE);
            }
        }
    }

    private static void promise5WritesNothing() {
        for (Consumer<MirrorGroup> scene : allStates()) {
            Writes.none().areDoneBy(scene, group -> group.read(0, 0, 63, 3));
        }
    }

    private static void promise5NoSuchVolume() {
        for (Consumer<MirrorGroup> scene : allStates()) {
            for (int volume : new int[] {1, 5, 6, -1, Integer.MIN_VALUE, Integer.MAX_VALUE}) {
                Writes.dueRefused("volume " + volume, Check.INDEX, scene,
                    group -> group.read(volume, 0, 0, 0));
            }
        }
        Writes.dueRefused("no volume at all", Check.INDEX, Scenes.joined(0),
            group -> group.read(0, 0, 0, 0));
        Writes.dueRefused("volume 6 of 6", Check.INDEX, Scenes.joined(6),
            group -> group.read(6, 0, 0, 0));
    }

    private static void promise5NoSuchBlock() {
        for (Consumer<MirrorGroup> scene : allStates()) {
            for (int block : new int[] {64, -1, Integer.MIN_VALUE, Integer.MAX_VALUE}) {
                Writes.dueRefused("block " + block, Check.INDEX, scene,
                    group -> group.read(0, 0, block, 0));
            }
        }
    }

    private static void promise5NoSuchWord() {
        for (Consumer<MirrorGroup> scene : allStates()) {
            for (int word : new int[] {4, -1, Integer.MIN_VALUE, Integer.MAX_VALUE}) {
                Writes.dueRefused("word " + word, Check.INDEX, scene,
                    group -> group.read(0, 0, 0, word));
            }
        }
    }

    private static void promise5NoSuchSideInASplitOne() {
        for (int side : new int[] {2, -1, Integer.MIN_VALUE, Integer.MAX_VALUE}) {
            Writes.dueRefused("side " + side, Check.INDEX, Scenes.split(1),
                group -> group.read(0, side, 0, 0));
        }
        for (Consumer<MirrorGroup> scene : allButSplit()) {
            MirrorGroup group = Scenes.after(scene);
            int due = group.read(0, 0, 0, 0);
            for (int side : Scenes.OUTSIDE) {
                Check.due("in another one", group.read(0, side, 0, 0), due);
            }
        }
    }
}

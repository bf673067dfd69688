import java.util.List;
import java.util.function.Consumer;

/** Promises 6 to 9: split, rejoin, step, run. */
final class SplitAndRejoinSentences {
    private static final String NOT_REJOINING = "IndexOutOfBoundsException when there is no such "
            + "volume; UnsupportedOperationException when it is not REJOINING.";
    private static final String LEFT = "One step: how many regions are left that have a bit.";
    private static final String UNTIL = "Steps until the volume is JOINED: how many.";
    private static final String LIKEWISE =
            "IndexOutOfBoundsException, UnsupportedOperationException likewise.";

    private SplitAndRejoinSentences() {
    }

    static List<Sentence> all() {
        return List.of(
            new Sentence("Promise 6", "All JOINED volumes become SPLIT with empty maps,",
                SplitAndRejoinSentences::promise6AllJoinedVolumes),
            new Sentence("Promise 6", "All JOINED volumes become SPLIT with empty maps,",
                SplitAndRejoinSentences::promise6EmptyMapsTheSecondTimeToo),
            new Sentence("Promise 6", "their regions leave the window;",
                SplitAndRejoinSentences::promise6FullWindowBecomesEmpty),
            new Sentence("Promise 6", "their regions leave the window;",
                SplitAndRejoinSentences::promise6OthersStayInTheWindow),
            new Sentence("Promise 6", "one header write, if there is such a volume.",
                SplitAndRejoinSentences::promise6OneHeaderWriteForSix),
            new Sentence("Promise 6", "one header write, if there is such a volume.",
                SplitAndRejoinSentences::promise6NoSuchVolume),
            new Sentence("Promise 6", "How many there were.",
                SplitAndRejoinSentences::promise6HowMany),
            new Sentence("Promise 7",
                "A SPLIT volume becomes REJOINING with a side as the winner; its maps stay.",
                SplitAndRejoinSentences::promise7EitherSide),
            new Sentence("Promise 7",
                "A SPLIT volume becomes REJOINING with a side as the winner; its maps stay.",
                SplitAndRejoinSentences::promise7EmptyAndFullMapsStay),
            new Sentence("Promise 7", "A header write.",
                SplitAndRejoinSentences::promise7HeaderWrite),
            new Sentence("Promise 7",
                "IndexOutOfBoundsException when there is no such volume or side;",
                SplitAndRejoinSentences::promise7NoSuchVolume),
            new Sentence("Promise 7",
                "IndexOutOfBoundsException when there is no such volume or side;",
                SplitAndRejoinSentences::promise7NoSuchSide),
            new Sentence("Promise 7",
                "UnsupportedOperationException when the volume is not SPLIT.",
                SplitAndRejoinSentences::promise7NotSplit),
            new Sentence("Promise 8", LEFT, SplitAndRejoinSentences::promise8FromEightToNone),
            new Sentence("Promise 8", LEFT, SplitAndRejoinSentences::promise8BitsInBothMapsAreOne),
            new Sentence("Promise 8", LEFT, SplitAndRejoinSentences::promise8NoBitAtAll),
            new Sentence("Promise 8", LEFT, SplitAndRejoinSentences::promise8InUseBetweenSteps),
            new Sentence("Promise 8", NOT_REJOINING, SplitAndRejoinSentences::promise8NoSuchVolume),
            new Sentence("Promise 8", NOT_REJOINING, SplitAndRejoinSentences::promise8NotRejoining),
            new Sentence("Promise 9", UNTIL, SplitAndRejoinSentences::promise9AllEight),
            new Sentence("Promise 9", UNTIL, SplitAndRejoinSentences::promise9NoBitIsOneStep),
            new Sentence("Promise 9", UNTIL, SplitAndRejoinSentences::promise9WhatStepsLeft),
            new Sentence("Promise 9", UNTIL, SplitAndRejoinSentences::promise9StepsOneByOne),
            new Sentence("Promise 9", LIKEWISE, SplitAndRejoinSentences::promise9NoSuchVolume),
            new Sentence("Promise 9", LIKEWISE, SplitAndRejoinSentences::promise9NotRejoining));
    }

    private static void promise6AllJoinedVolumes() {
        Consumer<MirrorGroup> scene = Scenes.oneOfEachState().andThen(group -> {
            group.write(0, 0, 0, 0, 1);
            group.write(0, 1, 63, 0, 1);
            group.makeVolume();
        });
        Writes.header(Picture.row(11, "1,1,128 2,0,0 3,0,0 1,0,0 1,0,0"))
            .areDoneBy(scene, group -> Check.due("split", group.split(), 2));
    }

    private static void promise6EmptyMapsTheSecondTimeToo() {
        MirrorGroup group = Scenes.after(Scenes.rejoining(0));
        group.run(0);
        Check.due("split", group.split(), 1);
        Check.due("side 0's map", group.marked(0, 0), 0);
        Check.due("side 1's map", group.marked(0, 1), 0);
        group.write(0, 1, 0, 0, 5);
        Check.due("a new bit", group.marked(0, 1), 1);
    }

    private static void promise6FullWindowBecomesEmpty() {
        Writes.header(Picture.row(7, "1,0,0 1,0,0"))
            .areDoneBy(Scenes.fullWindow(2), group -> group.split());
    }

    private static void promise6OthersStayInTheWindow() {
        Consumer<MirrorGroup> scene = Scenes.split(2).andThen(group -> {
            group.rejoin(0, 1);
            group.rejoin(1, 0);
            group.makeVolume();
            group.write(2, 0, 0, 0, 1);
            group.write(1, 0, 56, 0, 1);
            group.write(2, 0, 8, 0, 1);
            group.write(0, 0, 56, 0, 1);
        });
        Writes.header(Picture.row(11, "3,0,0 2,0,0 1,0,0", 15, 7))
            .areDoneBy(scene, group -> Check.due("split", group.split(), 1));
        MirrorGroup group = Scenes.after(scene);
        group.split();
        group.write(0, 0, 0, 0, 1);
        Scenes.dueWindow("the next comes behind them", group, 15, 7, 0, -1);
        group.makeVolume();
        group.write(3, 0, 63, 0, 1);
        Check.due("split", group.split(), 1);
        Scenes.dueWindow("the first of all regions stays too", group, 15, 7, 0, -1);
    }

    private static void promise6OneHeaderWriteForSix() {
        Writes.header(Picture.row(7, "1,0,0 1,0,0 1,0,0 1,0,0 1,0,0 1,0,0"))
            .areDoneBy(Scenes.joined(6), group -> Check.due("split", group.split(), 6));
    }

    private static void promise6NoSuchVolume() {
        Consumer<MirrorGroup> noneJoined = Scenes.rejoining(1).andThen(group -> {
            group.write(0, 0, 8, 0, 1);
            group.write(0, 0, 56, 0, 1);
        });
        for (Consumer<MirrorGroup> scene
                : List.of(Scenes.joined(0), Scenes.split(6), noneJoined)) {
            Writes.none().areDoneBy(scene, group -> Check.due("split", group.split(), 0));
        }
    }

    private static void promise6HowMany() {
        for (int count = 0; count <= 6; count++) {
            MirrorGroup group = Scenes.after(Scenes.joined(count));
            Check.due("of " + count, group.split(), count);
            Check.due("once more", group.split(), 0);
        }
        Check.due("one of four", Scenes.after(Scenes.oneOfEachState()).split(), 1);
    }

    private static void promise7EitherSide() {
        for (int winner = 0; winner < 2; winner++) {
            MirrorGroup group = Scenes.after(Scenes.split(2));
            group.rejoin(1, winner);
            Check.due("state", group.state(1), 2 + winner);
            Check.due("the other volume", group.state(0), 1);
        }
    }

    private static void promise7EmptyAndFullMapsStay() {
        MirrorGroup group = Scenes.after(Scenes.split(1));
        for (int region = 0; region < 8; region++) {
            group.write(0, 1, 8 * region, 0, 1);
        }
        group.rejoin(0, 0);
        Check.due("empty", group.marked(0, 0), 0);
        Check.due("full", group.marked(0, 1), 255);
        Check.due("nothing is copied yet", group.differing(0), 8);
    }

    private static void promise7HeaderWrite() {
        for (int winner = 0; winner < 2; winner++) {
            int side = winner;
            Consumer<MirrorGroup> scene = Scenes.split(1).andThen(group -> {
                group.write(0, 0, 0, 0, 1);
                group.write(0, 1, 63, 0, 1);
            });
            Writes.header(Picture.row(5, 2 + winner + ",1,128"))
                .areDoneBy(scene, group -> group.rejoin(0, side));
        }
    }

    private static void promise7NoSuchVolume() {
        for (int volume : new int[] {2, 5, 6, -1, Integer.MIN_VALUE, Integer.MAX_VALUE}) {
            Writes.dueRefused("volume " + volume, Check.INDEX, Scenes.split(2),
                group -> group.rejoin(volume, 0));
        }
        Writes.dueRefused("no volume at all", Check.INDEX, Scenes.joined(0),
            group -> group.rejoin(0, 0));
        Writes.dueRefused("volume 6 of 6", Check.INDEX, Scenes.split(6),
            group -> group.rejoin(6, 0));
    }

    private static void promise7NoSuchSide() {
        for (int side : new int[] {2, 3, -1, Integer.MIN_VALUE, Integer.MAX_VALUE}) {
            Writes.dueRefused("side " + side, Check.INDEX, Scenes.split(1),
                group -> group.rejoin(0, side));
        }
        // The document names what is missing first, then the state.
        Writes.dueRefused("not split, side 2", Check.INDEX, Scenes.joined(1),
            group -> group.rejoin(0, 2));
    }

    private static void promise7NotSplit() {
        for (int winner = 0; winner < 2; winner++) {
            int side = winner;
            Writes.dueRefused("joined", Check.UNSUPPORTED, Scenes.fullWindow(1),
                group -> group.rejoin(0, side));
            Writes.dueRefused("rejoining to side 0", Check.UNSUPPORTED, Scenes.rejoining(0),
                group -> group.rejoin(0, side));
            Writes.dueRefused("rejoining to side 1", Check.UNSUPPORTED, Scenes.rejoining(1),
                group -> group.rejoin(0, side));
        }
    }

    /** Each region has a bit, of one side or the other, and one block that differs. */
    private static Consumer<MirrorGroup> eightMarks(int winner) {
        return Scenes.split(1).andThen(group -> {
            for (int region = 0; region < 8; region++) {
                group.write(0, region % 2, 9 * region, 0, region + 1);
            }
            group.rejoin(0, winner);
        });
    }

    private static void promise8FromEightToNone() {
        for (int winner = 0; winner < 2; winner++) {
            MirrorGroup group = Scenes.after(eightMarks(winner));
            for (int left = 7; left >= 0; left--) {
                Check.due("left", group.step(0), left);
                Check.due("differing", group.differing(0), left);
                Check.due("state", group.state(0), left == 0 ? 0 : 2 + winner);
            }
        }
    }

    private static void promise8BitsInBothMapsAreOne() {
        MirrorGroup group = Scenes.after(Scenes.split(1));
        for (int region = 0; region < 8; region++) {
            group.write(0, 0, 8 * region, 0, 1);
            group.write(0, 1, 8 * region, 0, 2);
        }
        group.rejoin(0, 1);
        for (int left = 7; left >= 0; left--) {
            Check.due("left", group.step(0), left);
        }
    }

    private static void promise8NoBitAtAll() {
        MirrorGroup group = Scenes.after(Scenes.split(1));
        group.rejoin(0, 1);
        Check.due("left", group.step(0), 0);
        Check.due("joined", group.state(0), 0);
        Check.dueThrow("no second one", Check.UNSUPPORTED, () -> group.step(0));
    }

    private static void promise8InUseBetweenSteps() {
        for (int winner = 0; winner < 2; winner++) {
            MirrorGroup group = Scenes.after(eightMarks(winner));
            group.step(0);
            group.write(0, 0, 63, 1, 70);
            group.write(0, 0, 0, 1, 80);
            Check.due("a write sets no bit", group.step(0), 6);
            group.run(0);
            Check.due("written before its copy", group.raw(0, 1 - winner, 63, 1), 70);
            Check.due("written behind its copy", group.raw(0, 1 - winner, 0, 1), 80);
            Check.due("the same", group.differing(0), 0);
        }
    }

    private static void promise8NoSuchVolume() {
        for (int volume : new int[] {1, 5, 6, -1, Integer.MIN_VALUE, Integer.MAX_VALUE}) {
            Writes.dueRefused("volume " + volume, Check.INDEX, Scenes.rejoining(0),
                group -> group.step(volume));
        }
        Writes.dueRefused("no volume at all", Check.INDEX, Scenes.joined(0),
            group -> group.step(0));
        Writes.dueRefused("volume 6 of 6", Check.INDEX, Scenes.split(6), group -> group.step(6));
    }

    private static void promise8NotRejoining() {
        Writes.dueRefused("joined", Check.UNSUPPORTED, Scenes.fullWindow(1),
            group -> group.step(0));
        Consumer<MirrorGroup> split = Scenes.split(1).andThen(group -> group.write(0, 0, 0, 0, 1));
        Writes.dueRefused("split", Check.UNSUPPORTED, split, group -> group.step(0));
        Consumer<MirrorGroup> again = Scenes.rejoining(1).andThen(group -> group.run(0));
        Writes.dueRefused("joined again", Check.UNSUPPORTED, again, group -> group.step(0));
    }

    private static void promise9AllEight() {
        for (int winner = 0; winner < 2; winner++) {
            MirrorGroup group = Scenes.after(eightMarks(winner));
            int before = group.writes();
            Check.due("steps", group.run(0), 8);
            Check.due("state", group.state(0), 0);
            Check.due("differing", group.differing(0), 0);
            Check.due("a block and a header each", group.writes(), before + 8 + 16);
            for (int region = 0; region < 8; region++) {
                int due = region % 2 == winner ? region + 1 : 0;
                Check.due("the winner's", group.raw(0, 1 - winner, 9 * region, 0), due);
                Check.due("the winner's", group.raw(0, winner, 9 * region, 0), due);
            }
        }
    }

    private static void promise9NoBitIsOneStep() {
        Consumer<MirrorGroup> scene = Scenes.split(1).andThen(group -> group.rejoin(0, 0));
        Writes.header(Picture.row(4, "0,0,0"))
            .areDoneBy(scene, group -> Check.due("steps", group.run(0), 1));
    }

    private static void promise9WhatStepsLeft() {
        for (int steps = 0; steps < 8; steps++) {
            MirrorGroup group = Scenes.after(eightMarks(1));
            for (int i = 0; i < steps; i++) {
                group.step(0);
            }
            Check.due("the rest", group.run(0), 8 - steps);
        }
    }

    private static void promise9StepsOneByOne() {
        Writes.block(0, 1, 0, 10, 11, 12, 13)
            .thenHeader(Picture.row(6, "2,0,4"))
            .thenBlock(0, 1, 16, 0, 0, 0, 0)
            .thenHeader(Picture.row(7, "0,0,0"))
            .areDoneBy(Scenes.rejoining(0), group -> Check.due("steps", group.run(0), 2));
        Writes.block(0, 0, 0, 0, 0, 0, 0)
            .thenHeader(Picture.row(6, "3,0,4"))
            .thenBlock(0, 0, 16, 20, 21, 22, 23)
            .thenHeader(Picture.row(7, "0,0,0"))
            .areDoneBy(Scenes.rejoining(1), group -> Check.due("steps", group.run(0), 2));
    }

    private static void promise9NoSuchVolume() {
        for (int volume : new int[] {1, 5, 6, -1, Integer.MIN_VALUE, Integer.MAX_VALUE}) {
            Writes.dueRefused("volume " + volume, Check.INDEX, Scenes.rejoining(0),
                group -> group.run(volume));
        }
        Writes.dueRefused("no volume at all", Check.INDEX, Scenes.joined(0),
            group -> group.run(0));
        Writes.dueRefused("volume 6 of 6", Check.INDEX, Scenes.split(6), group -> group.run(6));
    }

    private static void promise9NotRejoining() {
        Writes.dueRefused("joined", Check.UNSUPPORTED, Scenes.fullWindow(1),
            group -> group.run(0));
        Consumer<MirrorGroup> split = Scenes.split(1).andThen(group -> group.write(0, 0, 0, 0, 1));
        Writes.dueRefused("split", Check.UNSUPPORTED, split, group -> group.run(0));
        Consumer<MirrorGroup> again = Scenes.rejoining(1).andThen(group -> group.run(0));
        Writes.dueRefused("joined again", Check.UNSUPPORTED, again, group -> group.run(0));
    }
}

import java.util.List;
import java.util.function.Consumer;

/** Terms: how a word (or block) is written, and where it is read. */
final class WrittenSentences {
    private static final String TERMS = "Terms";
    private static final String JOINED = "In a JOINED volume: if its region is not in the window, "
            + "it comes into the window behind the others (if there are 4, the oldest one goes), "
            + "and there is a header write.";
    private static final String SPLIT = "In a SPLIT one, on a side: if the region's bit is not set "
            + "in that side's map, it is set, and there is a header write.";
    private static final String REJOINING = "In a REJOINING one: if the region's bit is set in one "
            + "of both maps, the block is written on the winner's side alone.";
    private static final String OTHERWISE = "Otherwise as in a JOINED one, but on the winner's "
            + "side first, then on the other one.";
    private static final String BLOCK = "The block that is written is always the one of the side on "
            + "which it is written first, but for what is new;";
    private static final String READ = "READ is in a JOINED volume from side 0, in a SPLIT one from "
            + "the side that is named, in a REJOINING one from the winner.";

    private WrittenSentences() {
    }

    static List<Sentence> all() {
        return List.of(
            new Sentence(TERMS, "A word (or block) is WRITTEN:",
                WrittenSentences::writtenWordsAndBlocksAlike),
            new Sentence(TERMS, JOINED, WrittenSentences::joinedIntoAnEmptyWindow),
            new Sentence(TERMS, JOINED, WrittenSentences::joinedBehindTheOthers),
            new Sentence(TERMS, JOINED, WrittenSentences::joinedFourthFillsTheWindow),
            new Sentence(TERMS, JOINED, WrittenSentences::joinedFifthSendsTheOldestAway),
            new Sentence(TERMS, JOINED, WrittenSentences::joinedInTheWindowAlready),
            new Sentence(TERMS, JOINED, WrittenSentences::joinedInTheFullWindowAlready),
            new Sentence(TERMS, JOINED, WrittenSentences::joinedComesBackAsTheNewest),
            new Sentence(TERMS, JOINED, WrittenSentences::joinedRegionsOfTwoVolumesAreTwo),
            new Sentence(TERMS, "Then the block, with what is new in it, is written on side 0, "
                + "then on side 1.", WrittenSentences::joinedOnSide0First),
            new Sentence(TERMS, "Then the block, with what is new in it, is written on side 0, "
                + "then on side 1.", WrittenSentences::joinedWhatIsTheSameIsWrittenToo),
            new Sentence(TERMS, SPLIT, WrittenSentences::splitBitNotSet),
            new Sentence(TERMS, SPLIT, WrittenSentences::splitBitSetAlready),
            new Sentence(TERMS, SPLIT, WrittenSentences::splitBitSetInTheOtherMap),
            new Sentence(TERMS, SPLIT, WrittenSentences::splitLeavesTheWindowAlone),
            new Sentence(TERMS, "Then the block is written on that side.",
                WrittenSentences::splitOnThatSideAlone),
            new Sentence(TERMS, REJOINING, WrittenSentences::rejoiningBitInEitherMap),
            new Sentence(TERMS, REJOINING, WrittenSentences::rejoiningBitInBothMaps),
            new Sentence(TERMS, OTHERWISE, WrittenSentences::rejoiningNoBitWinnerFirst),
            new Sentence(TERMS, OTHERWISE, WrittenSentences::rejoiningNoBitInTheWindowAlready),
            new Sentence(TERMS, OTHERWISE, WrittenSentences::rejoiningNoBitFifthInTheWindow),
            new Sentence(TERMS, OTHERWISE, WrittenSentences::rejoiningBitClearedByAStep),
            new Sentence(TERMS, BLOCK, WrittenSentences::blockOfTheSideThatIsNamed),
            new Sentence(TERMS, BLOCK, WrittenSentences::blockOfTheWinner),
            new Sentence(TERMS, "it is the same on both sides when it is written twice.",
                WrittenSentences::blockTheSameOnBothSides),
            new Sentence(TERMS, READ, WrittenSentences::readJoinedFromSide0),
            new Sentence(TERMS, READ, WrittenSentences::readSplitFromTheSideNamed),
            new Sentence(TERMS, READ, WrittenSentences::readRejoiningFromTheWinner));
    }

    private static void writtenWordsAndBlocksAlike() {
        Writes.header(Picture.row(3, "0,0,0 0,0,0", 8))
            .thenBlock(1, 0, 7, 0, 0, 0, 5)
            .thenBlock(1, 1, 7, 0, 0, 0, 5)
            .areDoneBy(Scenes.joined(2), group -> group.write(1, 0, 7, 3, 5));
        Writes.header(Picture.row(3, "0,0,0 0,0,0", 8))
            .thenBlock(1, 0, 7, 2, 3, 4, 5)
            .thenBlock(1, 1, 7, 2, 3, 4, 5)
            .areDoneBy(Scenes.joined(2), group -> group.fill(1, 0, 7, 2, 3, 4, 5));
    }

    private static void joinedIntoAnEmptyWindow() {
        Writes.header(Picture.row(2, "0,0,0", 0))
            .thenBlock(0, 0, 0, 5, 0, 0, 0)
            .thenBlock(0, 1, 0, 5, 0, 0, 0)
            .areDoneBy(Scenes.joined(1), group -> group.write(0, 0, 0, 0, 5));
    }

    private static void joinedBehindTheOthers() {
        Consumer<MirrorGroup> scene =
            Scenes.joined(1).andThen(group -> group.write(0, 0, 63, 0, 1));
        Writes.header(Picture.row(3, "0,0,0", 7, 2))
            .thenBlock(0, 0, 16, 0, 5, 0, 0)
            .thenBlock(0, 1, 16, 0, 5, 0, 0)
            .areDoneBy(scene, group -> group.write(0, 0, 16, 1, 5));
    }

    private static void joinedFourthFillsTheWindow() {
        Consumer<MirrorGroup> scene = Scenes.joined(1).andThen(group -> {
            group.write(0, 0, 40, 0, 1);
            group.write(0, 0, 8, 0, 1);
            group.write(0, 0, 24, 0, 1);
        });
        Writes.header(Picture.row(5, "0,0,0", 5, 1, 3, 0))
            .thenBlock(0, 0, 7, 0, 0, 5, 0)
            .thenBlock(0, 1, 7, 0, 0, 5, 0)
            .areDoneBy(scene, group -> group.write(0, 0, 7, 2, 5));
    }

    private static void joinedFifthSendsTheOldestAway() {
        Writes.header(Picture.row(6, "0,0,0", 1, 2, 3, 7))
            .thenBlock(0, 0, 56, 5, 0, 0, 0)
            .thenBlock(0, 1, 56, 5, 0, 0, 0)
            .areDoneBy(Scenes.fullWindow(1), group -> group.write(0, 0, 56, 0, 5));
    }

    private static void joinedInTheWindowAlready() {
        Consumer<MirrorGroup> scene =
            Scenes.joined(1).andThen(group -> group.write(0, 0, 8, 0, 1));
        Writes.block(0, 0, 15, 5, 0, 0, 0)
            .thenBlock(0, 1, 15, 5, 0, 0, 0)
            .areDoneBy(scene, group -> group.write(0, 0, 15, 0, 5));
    }

    private static void joinedInTheFullWindowAlready() {
        for (int region = 0; region < 4; region++) {
            int block = 8 * region + 7;
            Writes.block(0, 0, block, 5, 6, 7, 8)
                .thenBlock(0, 1, block, 5, 6, 7, 8)
                .areDoneBy(Scenes.fullWindow(1), group -> group.fill(0, 0, block, 5, 6, 7, 8));
        }
        MirrorGroup group = Scenes.after(Scenes.fullWindow(1));
        group.write(0, 0, 0, 0, 2);
        group.write(0, 0, 32, 0, 2);
        Scenes.dueWindow("the oldest stays the oldest when it is written", group, 1, 2, 3, 4);
    }

    private static void joinedComesBackAsTheNewest() {
        MirrorGroup group = Scenes.after(Scenes.fullWindow(1));
        group.write(0, 0, 32, 0, 2);
        Scenes.dueWindow("region 0 is gone", group, 1, 2, 3, 4);
        int before = group.writes();
        group.write(0, 0, 0, 0, 2);
        Scenes.dueWindow("region 0 is back", group, 2, 3, 4, 0);
        Check.due("with a header write", group.writes(), before + 4);
    }

    private static void joinedRegionsOfTwoVolumesAreTwo() {
        Consumer<MirrorGroup> scene =
            Scenes.joined(6).andThen(group -> group.write(0, 0, 63, 0, 1));
        String volumes = "0,0,0 0,0,0 0,0,0 0,0,0 0,0,0 0,0,0";
        Writes.header(Picture.row(8, volumes, 7, 47))
            .thenBlock(5, 0, 63, 5, 0, 0, 0)
            .thenBlock(5, 1, 63, 5, 0, 0, 0)
            .areDoneBy(scene, group -> group.write(5, 0, 63, 0, 5));
    }

    private static void joinedOnSide0First() {
        Consumer<MirrorGroup> scene =
            Scenes.joined(1).andThen(group -> group.fill(0, 0, 9, 1, 2, 3, 4));
        Writes.block(0, 0, 9, 1, 2, 7, 4)
            .thenBlock(0, 1, 9, 1, 2, 7, 4)
            .areDoneBy(scene, group -> group.write(0, 1, 9, 2, 7));
    }

    private static void joinedWhatIsTheSameIsWrittenToo() {
        Consumer<MirrorGroup> scene =
            Scenes.joined(1).andThen(group -> group.fill(0, 0, 9, 1, 2, 3, 4));
        Writes.block(0, 0, 9, 1, 2, 3, 4)
            .thenBlock(0, 1, 9, 1, 2, 3, 4)
            .areDoneBy(scene, group -> group.write(0, 0, 9, 2, 3));
        Writes.header(Picture.row(2, "0,0,0", 3))
            .thenBlock(0, 0, 24, 0, 0, 0, 0)
            .thenBlock(0, 1, 24, 0, 0, 0, 0)
            .areDoneBy(Scenes.joined(1), group -> group.fill(0, 0, 24, 0, 0, 0, 0));
    }

    private static void splitBitNotSet() {
        for (int side = 0; side < 2; side++) {
            int named = side;
            String volume = side == 0 ? "1,128,0" : "1,0,128";
            Writes.header(Picture.row(3, volume))
                .thenBlock(0, side, 56, 0, 0, 0, 5)
                .areDoneBy(Scenes.split(1), group -> group.write(0, named, 56, 3, 5));
        }
    }

    private static void splitBitSetAlready() {
        for (int side = 0; side < 2; side++) {
            int named = side;
            Consumer<MirrorGroup> scene =
                Scenes.split(1).andThen(group -> group.write(0, named, 8, 0, 1));
            Writes.block(0, side, 15, 5, 6, 7, 8)
                .areDoneBy(scene, group -> group.fill(0, named, 15, 5, 6, 7, 8));
        }
    }

    private static void splitBitSetInTheOtherMap() {
        for (int side = 0; side < 2; side++) {
            int named = side;
            Consumer<MirrorGroup> scene =
                Scenes.split(1).andThen(group -> group.write(0, 1 - named, 8, 0, 1));
            Writes.header(Picture.row(4, "1,2,2"))
                .thenBlock(0, side, 8, 0, 5, 0, 0)
                .areDoneBy(scene, group -> group.write(0, named, 8, 1, 5));
        }
    }

    private static void splitLeavesTheWindowAlone() {
        Consumer<MirrorGroup> scene = Scenes.split(1).andThen(group -> {
            group.makeVolume();
            group.write(1, 0, 0, 0, 1);
        });
        Writes.header(Picture.row(5, "1,1,0 0,0,0", 8))
            .thenBlock(0, 0, 0, 5, 0, 0, 0)
            .areDoneBy(scene, group -> group.write(0, 0, 0, 0, 5));
    }

    private static void splitOnThatSideAlone() {
        MirrorGroup group = Scenes.after(Scenes.split(1));
        group.fill(0, 0, 33, 1, 2, 3, 4);
        Scenes.dueBlock("side 0 written", group, 0, 0, 33, 1, 2, 3, 4);
        Scenes.dueBlock("side 0 written", group, 0, 1, 33, 0, 0, 0, 0);
        group.fill(0, 1, 33, 5, 6, 7, 8);
        Scenes.dueBlock("side 1 written", group, 0, 0, 33, 1, 2, 3, 4);
        Scenes.dueBlock("side 1 written", group, 0, 1, 33, 5, 6, 7, 8);
    }

    private static void rejoiningBitInEitherMap() {
        for (int winner = 0; winner < 2; winner++) {
            Writes.block(0, winner, 7, 5, 6, 7, 8)
                .areDoneBy(Scenes.rejoining(winner), group -> group.fill(0, 0, 7, 5, 6, 7, 8));
            Writes.block(0, winner, 23, 5, 6, 7, 8)
                .areDoneBy(Scenes.rejoining(winner), group -> group.fill(0, 1, 23, 5, 6, 7, 8));
        }
    }

    private static void rejoiningBitInBothMaps() {
        for (int winner = 0; winner < 2; winner++) {
            int side = winner;
            Consumer<MirrorGroup> scene = Scenes.split(1).andThen(group -> {
                group.write(0, 0, 8, 0, 1);
                group.write(0, 1, 8, 0, 2);
                group.rejoin(0, side);
            });
            Writes.block(0, winner, 9, 0, 0, 0, 5)
                .areDoneBy(scene, group -> group.write(0, 1 - side, 9, 3, 5));
        }
    }

    private static void rejoiningNoBitWinnerFirst() {
        for (int winner = 0; winner < 2; winner++) {
            Writes.header(Picture.row(6, 2 + winner + ",1,4", 1))
                .thenBlock(0, winner, 8, 5, 0, 0, 0)
                .thenBlock(0, 1 - winner, 8, 5, 0, 0, 0)
                .areDoneBy(Scenes.rejoining(winner), group -> group.write(0, 0, 8, 0, 5));
        }
    }

    private static void rejoiningNoBitInTheWindowAlready() {
        for (int winner = 0; winner < 2; winner++) {
            Consumer<MirrorGroup> scene =
                Scenes.rejoining(winner).andThen(group -> group.write(0, 0, 15, 0, 5));
            Writes.block(0, winner, 15, 5, 6, 0, 0)
                .thenBlock(0, 1 - winner, 15, 5, 6, 0, 0)
                .areDoneBy(scene, group -> group.write(0, 0, 15, 1, 6));
        }
    }

    private static void rejoiningNoBitFifthInTheWindow() {
        for (int winner = 0; winner < 2; winner++) {
            Consumer<MirrorGroup> scene = Scenes.rejoining(winner).andThen(group -> {
                for (int region = 7; region > 3; region--) {
                    group.write(0, 0, 8 * region, 0, 1);
                }
            });
            Writes.header(Picture.row(10, 2 + winner + ",1,4", 6, 5, 4, 3))
                .thenBlock(0, winner, 24, 5, 0, 0, 0)
                .thenBlock(0, 1 - winner, 24, 5, 0, 0, 0)
                .areDoneBy(scene, group -> group.write(0, 0, 24, 0, 5));
        }
    }

    private static void rejoiningBitClearedByAStep() {
        for (int winner = 0; winner < 2; winner++) {
            Consumer<MirrorGroup> scene =
                Scenes.rejoining(winner).andThen(group -> group.step(0));
            int[] words = winner == 0 ? new int[] {10, 11, 12, 5} : new int[] {0, 0, 0, 5};
            Writes.header(Picture.row(7, 2 + winner + ",0,4", 0))
                .thenBlock(0, winner, 0, words)
                .thenBlock(0, 1 - winner, 0, words)
                .areDoneBy(scene, group -> group.write(0, 0, 0, 3, 5));
        }
    }

    private static void blockOfTheSideThatIsNamed() {
        Consumer<MirrorGroup> scene = Scenes.split(1).andThen(group -> {
            group.fill(0, 0, 0, 1, 2, 3, 4);
            group.fill(0, 1, 0, 5, 6, 7, 8);
        });
        Writes.block(0, 0, 0, 1, 9, 3, 4)
            .areDoneBy(scene, group -> group.write(0, 0, 0, 1, 9));
        Writes.block(0, 1, 0, 5, 9, 7, 8)
            .areDoneBy(scene, group -> group.write(0, 1, 0, 1, 9));
    }

    private static void blockOfTheWinner() {
        for (int winner = 0; winner < 2; winner++) {
            int side = winner;
            Consumer<MirrorGroup> scene = Scenes.split(1).andThen(group -> {
                group.fill(0, side, 0, 1, 2, 3, 4);
                group.fill(0, 1 - side, 0, 5, 6, 7, 8);
                group.rejoin(0, side);
            });
            Writes.block(0, winner, 0, 1, 9, 3, 4)
                .areDoneBy(scene, group -> group.write(0, 1 - side, 0, 1, 9));
        }
    }

    private static void blockTheSameOnBothSides() {
        for (int winner = 0; winner < 2; winner++) {
            Consumer<MirrorGroup> scene = Scenes.rejoining(winner).andThen(group -> group.run(0));
            MirrorGroup group = Scenes.after(scene);
            int region0 = winner == 0 ? 11 : 0;
            int region2 = winner == 0 ? 0 : 21;
            group.write(0, 0, 0, 0, 9);
            group.write(0, 0, 16, 0, 9);
            for (int side = 0; side < 2; side++) {
                Check.due("new", group.raw(0, side, 0, 0), 9);
                Check.due("the winner's", group.raw(0, side, 0, 1), region0);
                Check.due("new", group.raw(0, side, 16, 0), 9);
                Check.due("the winner's", group.raw(0, side, 16, 1), region2);
            }
            Check.due("differing", group.differing(0), 0);
        }
    }

    private static void readJoinedFromSide0() {
        Consumer<MirrorGroup> scene = Scenes.joined(1).andThen(group -> group.write(0, 0, 63, 3, 7));
        MirrorGroup group = Scenes.after(scene);
        Check.due("side 0", group.read(0, 0, 63, 3), 7);
        Check.due("side 1", group.read(0, 1, 63, 3), 7);
        Check.due("no side", group.read(0, 2, 63, 3), 7);
    }

    private static void readSplitFromTheSideNamed() {
        MirrorGroup group = Scenes.after(Scenes.split(1));
        group.write(0, 0, 63, 3, 7);
        group.write(0, 1, 63, 3, 8);
        Check.due("side 0", group.read(0, 0, 63, 3), 7);
        Check.due("side 1", group.read(0, 1, 63, 3), 8);
    }

    private static void readRejoiningFromTheWinner() {
        for (int winner = 0; winner < 2; winner++) {
            MirrorGroup group = Scenes.after(Scenes.rejoining(winner));
            for (int side = -1; side < 3; side++) {
                Check.due("side " + side, group.read(0, side, 0, 1), winner == 0 ? 11 : 0);
                Check.due("side " + side, group.read(0, side, 16, 1), winner == 0 ? 0 : 21);
            }
            Writes.none().areDoneBy(Scenes.rejoining(winner), other -> other.read(0, 0, 16, 1));
        }
    }
}

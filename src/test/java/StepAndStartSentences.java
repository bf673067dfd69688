import java.util.List;
import java.util.function.Consumer;

/**
 * Terms: a step, and start(). No run of calls makes more than one block of the window's regions
 * differ, side 1's header the newer one, or a region of the window have a bit; so the order of
 * what start() mends, and those two cases, are kept by the class but can't be told from outside.
 */
final class StepAndStartSentences {
    private static final String TERMS = "Terms";
    private static final String LOWEST = "A STEP of a REJOINING volume: the lowest region whose bit "
            + "is set in one of both maps (if there is one) is copied:";
    private static final String COPY = "each of its blocks that is not the same on both sides, in "
            + "order, is written from the winner on the other side;";
    private static final String BECOMES = "If no bit is set then (any more), the volume becomes "
            + "JOINED.";
    private static final String GREATER = "The header at hand is the one with the greater number "
            + "(side 0's, if they are the same); if they are not the same, it is written on the "
            + "other side.";
    private static final String MEND = "Then, for each region in the window, the oldest first: if "
            + "its volume is JOINED, or REJOINING with the region's bit in none of both maps, each "
            + "of its blocks that is not the same on both sides, in order, is written from side 0, "
            + "or from the winner, on the other side.";
    private static final String EMPTY = "Then, if the window is not empty, it becomes empty, and "
            + "there is a header write.";

    private StepAndStartSentences() {
    }

    static List<Sentence> all() {
        return List.of(
            new Sentence(TERMS, LOWEST, StepAndStartSentences::stepLowestOfBothMaps),
            new Sentence(TERMS, LOWEST, StepAndStartSentences::stepRegions0To7),
            new Sentence(TERMS, LOWEST, StepAndStartSentences::stepNoBitSet),
            new Sentence(TERMS, COPY, StepAndStartSentences::stepBlocksInOrderFromTheWinner),
            new Sentence(TERMS, COPY, StepAndStartSentences::stepBlocksThatAreTheSame),
            new Sentence(TERMS, COPY, StepAndStartSentences::stepBlocksThatDifferInOneWord),
            new Sentence(TERMS, "then its bits are cleared in both maps.",
                StepAndStartSentences::stepClearsBothBits),
            new Sentence(TERMS, BECOMES, StepAndStartSentences::stepLastBitOfAll),
            new Sentence(TERMS, BECOMES, StepAndStartSentences::stepLastBitOfOneMap),
            new Sentence(TERMS, BECOMES, StepAndStartSentences::stepLeavesTheWindow),
            new Sentence(TERMS, "Then there is a header write.",
                StepAndStartSentences::stepWritesTheHeader),
            new Sentence(TERMS, "start(): power is on.", StepAndStartSentences::startPowerIsOn),
            new Sentence(TERMS, GREATER, StepAndStartSentences::startHeadersNotTheSame),
            new Sentence(TERMS, GREATER, StepAndStartSentences::startHeadersTheSame),
            new Sentence(TERMS, GREATER, StepAndStartSentences::startCutBeforeTheOtherHeader),
            new Sentence(TERMS, MEND, StepAndStartSentences::startMendsAJoinedVolumeFromSide0),
            new Sentence(TERMS, MEND, StepAndStartSentences::startMendsARejoiningOneFromTheWinner),
            new Sentence(TERMS, MEND, StepAndStartSentences::startMendsEachBlockOfARegion),
            new Sentence(TERMS, MEND, StepAndStartSentences::startMendsEachPlaceOfTheWindow),
            new Sentence(TERMS, MEND, StepAndStartSentences::startMendsWhatLeftTheWindowToo),
            new Sentence(TERMS, MEND, StepAndStartSentences::startLeavesRegionsWithABit),
            new Sentence(TERMS, MEND, StepAndStartSentences::startLeavesASplitVolume),
            new Sentence(TERMS, EMPTY, StepAndStartSentences::startWindowIsEmptied),
            new Sentence(TERMS, EMPTY, StepAndStartSentences::startWindowIsEmptyAlready),
            new Sentence(TERMS, EMPTY, StepAndStartSentences::startHeaderThenBlockThenHeader));
    }

    /** Regions 5 and 2 have side 0's bit, regions 6 and 3 side 1's. Header number 7. */
    private static Consumer<MirrorGroup> fourMarks(int winner) {
        return Scenes.split(1).andThen(group -> {
            group.write(0, 0, 40, 0, 5);
            group.write(0, 1, 48, 0, 6);
            group.write(0, 0, 16, 0, 2);
            group.write(0, 1, 24, 0, 3);
            group.rejoin(0, winner);
        });
    }

    private static void stepLowestOfBothMaps() {
        for (int winner = 0; winner < 2; winner++) {
            MirrorGroup group = Scenes.after(fourMarks(winner));
            int[][] maps = {{36, 72}, {32, 72}, {32, 64}, {0, 64}, {0, 0}};
            for (int steps = 0; steps < maps.length; steps++) {
                Check.due("side 0's map", group.marked(0, 0), maps[steps][0]);
                Check.due("side 1's map", group.marked(0, 1), maps[steps][1]);
                if (steps < 4) {
                    group.step(0);
                }
            }
        }
    }

    private static void stepRegions0To7() {
        for (int region = 0; region < 8; region++) {
            int block = 8 * region + 7;
            Consumer<MirrorGroup> scene = Scenes.split(1).andThen(group -> {
                group.write(0, 1, block, 0, 5);
                group.rejoin(0, 1);
            });
            Writes.block(0, 0, block, 5, 0, 0, 0)
                .thenHeader(Picture.row(5, "0,0,0"))
                .areDoneBy(scene, group -> group.step(0));
        }
    }

    private static void stepNoBitSet() {
        for (int winner = 0; winner < 2; winner++) {
            int side = winner;
            Consumer<MirrorGroup> scene = Scenes.split(1).andThen(group -> group.rejoin(0, side));
            Writes.header(Picture.row(4, "0,0,0"))
                .areDoneBy(scene, group -> Check.due("step", group.step(0), 0));
        }
    }

    /** Region 1: blocks 8, 11 and 15 differ, side 0 has 1 .. 3 there and side 1 has 4 .. 6. */
    private static Consumer<MirrorGroup> threeBlocks(int winner) {
        return Scenes.split(1).andThen(group -> {
            int[] blocks = {15, 8, 11};
            for (int i = 0; i < 3; i++) {
                group.fill(0, 0, blocks[i], 0, i + 1, 0, 0);
                group.fill(0, 1, blocks[i], i + 4, 0, 0, 0);
            }
            group.rejoin(0, winner);
        });
    }

    private static void stepBlocksInOrderFromTheWinner() {
        Writes.block(0, 1, 8, 0, 2, 0, 0)
            .thenBlock(0, 1, 11, 0, 3, 0, 0)
            .thenBlock(0, 1, 15, 0, 1, 0, 0)
            .thenHeader(Picture.row(6, "0,0,0"))
            .areDoneBy(threeBlocks(0), group -> group.step(0));
        Writes.block(0, 0, 8, 5, 0, 0, 0)
            .thenBlock(0, 0, 11, 6, 0, 0, 0)
            .thenBlock(0, 0, 15, 4, 0, 0, 0)
            .thenHeader(Picture.row(6, "0,0,0"))
            .areDoneBy(threeBlocks(1), group -> group.step(0));
    }

    private static void stepBlocksThatAreTheSame() {
        for (int winner = 0; winner < 2; winner++) {
            int side = winner;
            Consumer<MirrorGroup> scene = Scenes.split(1).andThen(group -> {
                group.fill(0, 0, 8, 1, 2, 3, 4);
                group.fill(0, 1, 8, 1, 2, 3, 4);
                group.write(0, 0, 16, 0, 0);
                group.rejoin(0, side);
            });
            Writes.header(Picture.row(7, 2 + winner + ",4,0"))
                .areDoneBy(scene, group -> Check.due("step", group.step(0), 1));
            Writes.header(Picture.row(7, 2 + winner + ",4,0"))
                .thenHeader(Picture.row(8, "0,0,0"))
                .areDoneBy(scene, group -> Check.due("run", group.run(0), 2));
        }
    }

    private static void stepBlocksThatDifferInOneWord() {
        for (int word = 0; word < 4; word++) {
            int at = word;
            int[] words = {0, 0, 0, 0};
            words[word] = 9;
            Consumer<MirrorGroup> scene = Scenes.split(1).andThen(group -> {
                group.write(0, 0, 5, at, 9);
                group.rejoin(0, 0);
            });
            Writes.block(0, 1, 5, words)
                .thenHeader(Picture.row(5, "0,0,0"))
                .areDoneBy(scene, group -> group.step(0));
        }
    }

    private static void stepClearsBothBits() {
        for (int winner = 0; winner < 2; winner++) {
            int side = winner;
            Consumer<MirrorGroup> scene = Scenes.split(1).andThen(group -> {
                group.write(0, 0, 0, 0, 1);
                group.write(0, 1, 0, 1, 2);
                group.write(0, 0, 8, 0, 0);
                group.write(0, 1, 8, 0, 0);
                group.rejoin(0, side);
            });
            MirrorGroup group = Scenes.after(scene);
            Check.due("one of two regions is left", group.step(0), 1);
            Check.due("side 0's map", group.marked(0, 0), 2);
            Check.due("side 1's map", group.marked(0, 1), 2);
            Check.due("none is left", group.step(0), 0);
            Check.due("side 0's map", group.marked(0, 0), 0);
            Check.due("side 1's map", group.marked(0, 1), 0);
        }
    }

    private static void stepLastBitOfAll() {
        for (int winner = 0; winner < 2; winner++) {
            MirrorGroup group = Scenes.after(Scenes.rejoining(winner));
            group.step(0);
            Check.due("a bit is set still", group.state(0), 2 + winner);
            group.step(0);
            Check.due("none any more", group.state(0), 0);
            Check.due("on side 0", group.head(0, 2), 0);
            Check.due("on side 1", group.head(1, 2), 0);
        }
    }

    private static void stepLastBitOfOneMap() {
        for (int side = 0; side < 2; side++) {
            MirrorGroup group = Scenes.after(Scenes.split(1));
            group.write(0, side, 0, 0, 1);
            group.write(0, 1 - side, 56, 0, 1);
            group.rejoin(0, 0);
            Check.due("the other map has one still", group.step(0), 1);
            Check.due("rejoining", group.state(0), 2);
        }
    }

    private static void stepLeavesTheWindow() {
        for (int winner = 0; winner < 2; winner++) {
            Consumer<MirrorGroup> scene = Scenes.rejoining(winner).andThen(group -> {
                group.write(0, 0, 63, 0, 1);
                group.step(0);
                group.write(0, 0, 1, 0, 1);
                group.write(0, 0, 2, 0, 1);
            });
            int[] words = winner == 0 ? new int[] {0, 0, 0, 0} : new int[] {20, 21, 22, 23};
            Writes.block(0, 1 - winner, 16, words)
                .thenHeader(Picture.row(9, "0,0,0", 7, 0))
                .areDoneBy(scene, group -> Check.due("step", group.step(0), 0));
        }
    }

    private static void stepWritesTheHeader() {
        Writes.block(0, 1, 16, 2, 0, 0, 0)
            .thenHeader(Picture.row(8, "2,32,72"))
            .areDoneBy(fourMarks(0), group -> group.step(0));
        Writes.block(0, 0, 16, 0, 0, 0, 0)
            .thenHeader(Picture.row(8, "3,32,72"))
            .areDoneBy(fourMarks(1), group -> group.step(0));
    }

    private static void startPowerIsOn() {
        MirrorGroup group = Scenes.after(Scenes.off(Scenes.joined(1)));
        Check.due("off", group.power(), 0);
        group.start();
        Check.due("on", group.power(), 1);
        group.start();
        Check.due("on still", group.power(), 1);
    }

    private static void startHeadersNotTheSame() {
        Consumer<MirrorGroup> made =
            Scenes.joined(1).andThen(Scenes.cut(1, MirrorGroup::makeVolume));
        Writes.headerOn(1, Picture.row(2, "0,0,0 0,0,0"))
            .areDoneBy(made, group -> Check.due("volumes", group.start(), 2));
        Consumer<MirrorGroup> stepped =
            fourMarks(0).andThen(Scenes.cut(2, group -> group.step(0)));
        Writes.headerOn(1, Picture.row(8, "2,32,72"))
            .areDoneBy(stepped, group -> group.start());
    }

    private static void startHeadersTheSame() {
        Consumer<MirrorGroup> cut =
            Scenes.split(1).andThen(Scenes.cut(0, group -> group.rejoin(0, 0)));
        Writes.none().areDoneBy(cut, group -> Check.due("volumes", group.start(), 1));
        MirrorGroup group = Scenes.after(cut);
        group.start();
        Check.due("it is not rejoining", group.state(0), 1);
        group.rejoin(0, 1);
        Check.due("the next number", group.head(1, 0), 3);
    }

    private static void startCutBeforeTheOtherHeader() {
        MirrorGroup group = Scenes.after(Scenes.joined(1));
        Scenes.cut(1, MirrorGroup::split).accept(group);
        for (int i = 0; i < 3; i++) {
            Scenes.cut(0, MirrorGroup::start).accept(group);
            Check.due("side 0's stands", group.head(0, 0), 2);
            Check.due("side 1's stands", group.head(1, 0), 1);
        }
        group.start();
        Check.due("side 0's is taken", group.state(0), 1);
        Check.due("it is on side 1", group.head(1, 2), 1);
    }

    private static void startMendsAJoinedVolumeFromSide0() {
        Consumer<MirrorGroup> cut =
            Scenes.joined(1).andThen(Scenes.cut(3, group -> group.fill(0, 0, 63, 1, 2, 3, 4)));
        Writes.block(0, 1, 63, 1, 2, 3, 4)
            .thenHeader(Picture.row(3, "0,0,0"))
            .areDoneBy(cut, group -> Check.due("volumes", group.start(), 1));
    }

    private static void startMendsARejoiningOneFromTheWinner() {
        for (int winner = 0; winner < 2; winner++) {
            Consumer<MirrorGroup> cut = Scenes.rejoining(winner)
                .andThen(Scenes.cut(3, group -> group.write(0, 0, 8, 3, 4)));
            Writes.block(0, 1 - winner, 8, 0, 0, 0, 4)
                .thenHeader(Picture.row(7, 2 + winner + ",1,4"))
                .areDoneBy(cut, group -> Check.due("volumes", group.start(), 1));
        }
    }

    private static void startMendsEachBlockOfARegion() {
        for (int block = 8; block < 16; block++) {
            int at = block;
            Consumer<MirrorGroup> cut =
                Scenes.joined(2).andThen(Scenes.cut(3, group -> group.write(1, 0, at, 2, 4)));
            Writes.block(1, 1, block, 0, 0, 4, 0)
                .thenHeader(Picture.row(4, "0,0,0 0,0,0"))
                .areDoneBy(cut, group -> group.start());
        }
    }

    private static void startMendsEachPlaceOfTheWindow() {
        for (int region = 0; region < 4; region++) {
            int block = 8 * region + 1;
            Consumer<MirrorGroup> cut =
                Scenes.fullWindow(1).andThen(Scenes.cut(1, group -> group.write(0, 0, block, 0, 4)));
            Writes.block(0, 1, block, 4, 0, 0, 0)
                .thenHeader(Picture.row(6, "0,0,0"))
                .areDoneBy(cut, group -> group.start());
        }
    }

    private static void startMendsWhatLeftTheWindowToo() {
        MirrorGroup group = Scenes.after(Scenes.fullWindow(1));
        group.write(0, 0, 32, 0, 1);
        Scenes.dueWindow("region 0 is gone", group, 1, 2, 3, 4);
        Scenes.cut(3, other -> other.write(0, 0, 1, 0, 9)).accept(group);
        Check.due("it is back on side 0", group.head(0, 23), 0);
        Check.due("it differs", group.differing(0), 1);
        group.start();
        Check.due("mended", group.differing(0), 0);
        Check.due("from side 0", group.raw(0, 1, 1, 0), 9);
    }

    private static void startLeavesRegionsWithABit() {
        for (int winner = 0; winner < 2; winner++) {
            Consumer<MirrorGroup> scene = Scenes.rejoining(winner)
                .andThen(group -> group.write(0, 0, 8, 0, 1))
                .andThen(Scenes.cut(1, group -> {
                    group.write(0, 0, 1, 0, 7);
                    group.write(0, 0, 17, 0, 8);
                }));
            Writes.header(Picture.row(7, 2 + winner + ",1,4"))
                .areDoneBy(scene, group -> group.start());
        }
    }

    private static void startLeavesASplitVolume() {
        Consumer<MirrorGroup> scene = Scenes.fullWindow(1).andThen(group -> {
            group.split();
            group.write(0, 0, 0, 0, 5);
            group.write(0, 1, 8, 0, 6);
            group.makeVolume();
            group.write(1, 0, 0, 0, 1);
        });
        Writes.header(Picture.row(11, "1,1,2 0,0,0"))
            .areDoneBy(scene, group -> Check.due("volumes", group.start(), 2));
    }

    private static void startWindowIsEmptied() {
        Writes.header(Picture.row(6, "0,0,0"))
            .areDoneBy(Scenes.fullWindow(1), group -> Check.due("volumes", group.start(), 1));
        Writes.header(Picture.row(26, "2,0,0 1,0,0 1,0,0 1,0,0 1,0,0 1,255,255"))
            .areDoneBy(Scenes.sixWithFullMaps(), group -> Check.due("six", group.start(), 6));
        MirrorGroup group = Scenes.after(Scenes.fullWindow(1));
        group.start();
        Scenes.dueWindow("empty", group, -1, -1, -1, -1);
        group.write(0, 0, 24, 0, 1);
        Scenes.dueWindow("the first one again", group, 3, -1, -1, -1);
    }

    private static void startWindowIsEmptyAlready() {
        Writes.none().areDoneBy(Scenes.joined(0), group -> group.start());
        Writes.none().areDoneBy(Scenes.split(6), group -> group.start());
        Consumer<MirrorGroup> once = Scenes.fullWindow(1).andThen(group -> group.start());
        Writes.none().areDoneBy(once, group -> group.start());
    }

    private static void startHeaderThenBlockThenHeader() {
        Consumer<MirrorGroup> header = Scenes.fullWindow(1)
            .andThen(Scenes.cut(1, group -> group.write(0, 0, 32, 0, 4)));
        Writes.headerOn(1, Picture.row(6, "0,0,0", 1, 2, 3, 4))
            .thenHeader(Picture.row(7, "0,0,0"))
            .areDoneBy(header, group -> group.start());
        Consumer<MirrorGroup> emptied = Scenes.joined(1)
            .andThen(Scenes.cut(3, group -> group.write(0, 0, 0, 0, 4)))
            .andThen(Scenes.cut(2, MirrorGroup::start));
        Writes.headerOn(1, Picture.row(3, "0,0,0"))
            .areDoneBy(emptied, group -> group.start());
    }
}

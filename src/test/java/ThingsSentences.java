import java.util.List;
import java.util.function.Consumer;

/** Terms: the things, the header, writes and power. */
final class ThingsSentences {
    private static final String TERMS = "Terms";

    private ThingsSentences() {
    }

    static List<Sentence> all() {
        return List.of(
            new Sentence("What it is",
                "An object is used for at most 512 calls after it has been made;",
                ThingsSentences::use512CallsThatWrite),
            new Sentence("What it is",
                "An object is used for at most 512 calls after it has been made;",
                ThingsSentences::use512CallsThatAreRefused),
            new Sentence(TERMS, "THINGS: at most 6 VOLUMES, numbered from 0,",
                ThingsSentences::thingsSixVolumes),
            new Sentence(TERMS, "of 64 BLOCKS of 4 WORDS (ints) on SIDE 0 and on side 1;",
                ThingsSentences::thingsEachWordIsItsOwn),
            new Sentence(TERMS, "of 64 BLOCKS of 4 WORDS (ints) on SIDE 0 and on side 1;",
                ThingsSentences::thingsWordsAreInts),
            new Sentence(TERMS, "all words are 0 at first.", ThingsSentences::thingsZeroAtFirst),
            new Sentence(TERMS,
                "A REGION is 8 blocks: region r of a volume has blocks 8 r .. 8 r + 7.",
                ThingsSentences::regionsFirstAndLastBlockInMaps),
            new Sentence(TERMS,
                "A REGION is 8 blocks: region r of a volume has blocks 8 r .. 8 r + 7.",
                ThingsSentences::regionsFirstAndLastBlockInWindow),
            new Sentence(TERMS,
                "A REGION is 8 blocks: region r of a volume has blocks 8 r .. 8 r + 7.",
                ThingsSentences::regionsAreCopiedFromFirstToLastBlock),
            new Sentence(TERMS,
                "A HEADER stands on each side: its number; how many volumes there are;",
                ThingsSentences::headerNumberAndVolumes),
            new Sentence(TERMS,
                "of each volume its STATE - 0 JOINED, 1 SPLIT, 2 REJOINING with side 0 as the "
                + "winner, 3 with side 1 -", ThingsSentences::headerStates),
            new Sentence(TERMS,
                "and two MAPS of regions (bit r for region r), one for each side;",
                ThingsSentences::headerMapsFromEmptyToFull),
            new Sentence(TERMS,
                "and the WINDOW, a row of at most 4 regions, the oldest first.",
                ThingsSentences::headerWindowOfAtMostFour),
            new Sentence(TERMS,
                "At first both are the same: number 0, no volumes, an empty window.",
                ThingsSentences::headerAtFirst),
            new Sentence(TERMS,
                "While power is on, the header at hand is the one that calls look at and change.",
                ThingsSentences::headerAtHand),
            new Sentence(TERMS,
                "WRITES come one after the other; each is one whole block of one side, or one "
                + "side's header, or is not done at all.", ThingsSentences::writesAreWhole),
            new Sentence(TERMS,
                "A HEADER WRITE: the header at hand gets the next number and is written on side "
                + "0, then on side 1.", ThingsSentences::headerWriteOnBothSides),
            new Sentence(TERMS,
                "A HEADER WRITE: the header at hand gets the next number and is written on side "
                + "0, then on side 1.", ThingsSentences::headerWriteThatFailedUsesNoNumber),
            new Sentence(TERMS, "POWER is on at first.", ThingsSentences::powerAtFirst),
            new Sentence(TERMS, "cutAfter(n) lets n more writes be done; the next one fails:",
                ThingsSentences::powerLetsSoManyWritesBeDone),
            new Sentence(TERMS,
                "power is off then, that write and all behind it are not done, and the call "
                + "throws IllegalStateException.", ThingsSentences::powerOffAndNothingBehind),
            new Sentence(TERMS,
                "While power is off all calls that list IllegalStateException throw it, before "
                + "they look at anything else;", ThingsSentences::powerOffWithRightArguments),
            new Sentence(TERMS,
                "While power is off all calls that list IllegalStateException throw it, before "
                + "they look at anything else;", ThingsSentences::powerOffWithWrongArguments),
            new Sentence(TERMS, "start() alone goes on.", ThingsSentences::powerStartGoesOn));
    }

    private static void use512CallsThatWrite() {
        MirrorGroup group = new MirrorGroup();
        group.makeVolume();
        for (int call = 2; call < 512; call++) {
            // Eight regions in turn: each is gone from the window when it comes again.
            group.write(0, 0, call % 8 * 8, 0, call);
        }
        Check.due("the 512th call", group.writes(), 2 + 510 * 4);

        MirrorGroup other = new MirrorGroup();
        other.makeVolume();
        for (int call = 2; call < 512; call++) {
            other.write(0, 0, call % 8 * 8, 0, call);
        }
        Check.due("the 512th call", other.head(1, 0), 511);
    }

    private static void use512CallsThatAreRefused() {
        MirrorGroup group = new MirrorGroup();
        for (int call = 1; call < 512; call++) {
            Check.dueThrow("call " + call, Check.INDEX, () -> group.write(0, 0, 0, 0, 1));
        }
        Check.due("the 512th call", group.makeVolume(), 0);
    }

    private static void thingsSixVolumes() {
        MirrorGroup group = new MirrorGroup();
        for (int volume = 0; volume < 6; volume++) {
            Check.due("a volume's number", group.makeVolume(), volume);
        }
        Check.due("a seventh", group.makeVolume(), -1);
        group.write(5, 0, 0, 0, 1);
        Check.due("volume 5", group.read(5, 0, 0, 0), 1);
        Check.dueThrow("volume 6", Check.INDEX, () -> group.read(6, 0, 0, 0));
        Check.dueThrow("volume -1", Check.INDEX, () -> group.read(-1, 0, 0, 0));
    }

    private static void thingsEachWordIsItsOwn() {
        for (int volume = 0; volume < 6; volume++) {
            int filled = volume;
            Consumer<MirrorGroup> scene = Scenes.split(6).andThen(group -> {
                for (int block = 0; block < 64; block++) {
                    group.fill(filled, block % 2, block, block, 100 + block, 200 + block, -block);
                }
            });
            Picture due = Picture.of(() -> Scenes.after(Scenes.split(6)));
            for (int block = 0; block < 64; block++) {
                int[] words = {block, 100 + block, 200 + block, -block};
                due.setBlock(volume, block % 2, block, words);
            }
            // Of each region blocks of both sides are filled: 16 header writes.
            String volumes = "1,0,0 ".repeat(volume) + "1,255,255" + " 1,0,0".repeat(5 - volume);
            due.setHeader(0, Picture.row(7 + 16, volumes));
            due.setHeader(1, Picture.row(7 + 16, volumes));
            due.setAtHand(true);
            Picture got = Picture.of(() -> Scenes.after(scene));
            Picture.dueSame("volume " + volume + " filled", got, due);
        }
    }

    private static void thingsWordsAreInts() {
        int[] ends = {Integer.MIN_VALUE, -1, 0, Integer.MAX_VALUE};
        MirrorGroup group = Scenes.after(Scenes.split(1));
        for (int side = 0; side < 2; side++) {
            for (int block : new int[] {0, 63}) {
                for (int word = 0; word < 4; word++) {
                    group.write(0, side, block, word, ends[word]);
                    Check.due("read", group.read(0, side, block, word), ends[word]);
                }
                Scenes.dueBlock("all four", group, 0, side, block, ends);
            }
        }
    }

    private static void thingsZeroAtFirst() {
        for (int volume = 0; volume < 6; volume++) {
            for (int side = 0; side < 2; side++) {
                MirrorGroup group = new MirrorGroup();
                for (int block = 0; block < 64; block++) {
                    Scenes.dueBlock("volume " + volume, group, volume, side, block, 0, 0, 0, 0);
                }
            }
        }
        MirrorGroup group = Scenes.after(Scenes.joined(6));
        Check.due("read at first", group.read(5, 0, 63, 3), 0);
    }

    private static void regionsFirstAndLastBlockInMaps() {
        for (int region = 0; region < 8; region++) {
            for (int block : new int[] {8 * region, 8 * region + 7}) {
                MirrorGroup group = Scenes.after(Scenes.split(1));
                group.write(0, 1, block, 0, 1);
                Check.due("block " + block, group.marked(0, 1), 1 << region);
            }
        }
    }

    private static void regionsFirstAndLastBlockInWindow() {
        for (int region = 0; region < 8; region++) {
            for (int block : new int[] {8 * region, 8 * region + 7}) {
                MirrorGroup group = Scenes.after(Scenes.joined(1));
                group.write(0, 0, block, 0, 1);
                Scenes.dueWindow("block " + block, group, region, -1, -1, -1);
            }
        }
    }

    private static void regionsAreCopiedFromFirstToLastBlock() {
        for (int region = 0; region < 8; region++) {
            MirrorGroup group = Scenes.after(Scenes.split(1));
            for (int other = 0; other < 8; other++) {
                group.write(0, 0, 8 * other, 0, 5);
                group.write(0, 0, 8 * other + 7, 0, 5);
            }
            group.rejoin(0, 0);
            for (int lower = 0; lower <= region; lower++) {
                group.step(0);
            }
            Check.due("first block", group.raw(0, 1, 8 * region, 0), 5);
            Check.due("last block", group.raw(0, 1, 8 * region + 7, 0), 5);
            Check.due("what is above stays", group.differing(0), 2 * (7 - region));
        }
    }

    private static void headerNumberAndVolumes() {
        MirrorGroup group = new MirrorGroup();
        for (int count = 1; count <= 6; count++) {
            group.makeVolume();
            for (int side = 0; side < 2; side++) {
                Check.due("number on side " + side, group.head(side, 0), count);
                Check.due("volumes on side " + side, group.head(side, 1), count);
            }
        }
        group.split();
        Check.due("number", group.head(1, 0), 7);
        Check.due("volumes", group.head(1, 1), 6);
    }

    private static void headerStates() {
        MirrorGroup group = Scenes.after(Scenes.oneOfEachState());
        int[] states = {1, 2, 3, 0, -1, -1};
        for (int volume = 0; volume < 6; volume++) {
            Check.due("at hand", group.state(volume), states[volume]);
            Check.due("on side 0", group.head(0, 2 + volume), states[volume]);
            Check.due("on side 1", group.head(1, 2 + volume), states[volume]);
        }
    }

    private static void headerMapsFromEmptyToFull() {
        for (int side = 0; side < 2; side++) {
            MirrorGroup group = Scenes.after(Scenes.split(2));
            int map = 0;
            Check.due("empty", group.marked(1, side), 0);
            for (int region = 7; region >= 0; region--) {
                group.write(1, side, 8 * region, 0, 1);
                map += 1 << region;
                Check.due("its map", group.marked(1, side), map);
                Check.due("on side 0", group.head(0, 9 + 6 * side), map);
                Check.due("on side 1", group.head(1, 9 + 6 * side), map);
            }
            Check.due("full", group.marked(1, side), 255);
            Check.due("the other side's", group.marked(1, 1 - side), 0);
            Check.due("the other volume's", group.marked(0, side), 0);
        }
    }

    private static void headerWindowOfAtMostFour() {
        MirrorGroup group = Scenes.after(Scenes.joined(1));
        int[] regions = {6, 2, 7, 0, 1};
        int[][] windows = {{6, -1, -1, -1}, {6, 2, -1, -1}, {6, 2, 7, -1}, {6, 2, 7, 0},
            {2, 7, 0, 1}};
        for (int i = 0; i < regions.length; i++) {
            group.write(0, 0, 8 * regions[i], 0, 1);
            int[] due = windows[i];
            Scenes.dueWindow("write " + i, group, due[0], due[1], due[2], due[3]);
            Check.due("no fifth place", group.windowed(4), -1);
        }
    }

    private static void headerAtFirst() {
        MirrorGroup group = new MirrorGroup();
        int[] due = Picture.row(0, "");
        for (int what = 0; what < 24; what++) {
            Check.due("side 0, what " + what, group.head(0, what), due[what]);
            Check.due("side 1, what " + what, group.head(1, what), due[what]);
        }
    }

    private static void headerAtHand() {
        MirrorGroup group = Scenes.after(Scenes.joined(1));
        group.cutAfter(0);
        Check.dueThrow("split", Check.STATE, () -> group.split());
        group.start();
        Check.due("a change that was on no side is gone", group.state(0), 0);
        group.cutAfter(1);
        Check.dueThrow("split", Check.STATE, () -> group.split());
        Check.due("it was on side 0", group.head(0, 2), 1);
        Check.due("not on side 1", group.head(1, 2), 0);
        group.start();
        Check.due("a change that was on side 0 is at hand", group.state(0), 1);
        Check.dueThrow("calls look at it", Check.INDEX, () -> group.read(0, 2, 0, 0));
        group.rejoin(0, 1);
        Check.due("calls change it", group.state(0), 3);
    }

    private static void writesAreWhole() {
        Writes.header(Picture.row(2, "0,0,0", 7))
            .thenBlock(0, 0, 63, 1, 2, 3, 4)
            .thenBlock(0, 1, 63, 1, 2, 3, 4)
            .areDoneBy(Scenes.joined(1), group -> group.fill(0, 0, 63, 1, 2, 3, 4));
        Writes.block(0, 0, 1, 5, 6, 7, 8)
            .areDoneBy(Scenes.rejoining(0), group -> group.fill(0, 1, 1, 5, 6, 7, 8));
    }

    private static void headerWriteOnBothSides() {
        Writes.header(Picture.row(1, "0,0,0"))
            .areDoneBy(Scenes.joined(0), group -> group.makeVolume());
        Writes.header(Picture.row(7, "1,0,0 1,0,0 1,0,0 1,0,0 1,0,0 1,0,0"))
            .areDoneBy(Scenes.joined(6), group -> group.split());
    }

    private static void headerWriteThatFailedUsesNoNumber() {
        MirrorGroup group = Scenes.after(Scenes.joined(1));
        for (int i = 0; i < 3; i++) {
            Scenes.cut(0, MirrorGroup::makeVolume).accept(group);
            group.start();
        }
        group.makeVolume();
        Check.due("the number behind 1", group.head(0, 0), 2);
        Scenes.cut(1, MirrorGroup::makeVolume).accept(group);
        group.start();
        Check.due("one that is on side 0 keeps its number", group.head(1, 0), 3);
        group.makeVolume();
        Check.due("the number behind 3", group.head(1, 0), 4);
    }

    private static void powerAtFirst() {
        Check.due("power", new MirrorGroup().power(), 1);
        Check.due("a call that wants power", new MirrorGroup().makeVolume(), 0);
    }

    private static void powerLetsSoManyWritesBeDone() {
        for (int n = 0; n < 12; n++) {
            MirrorGroup group = new MirrorGroup();
            group.cutAfter(n);
            for (int calls = 0; calls < n / 2; calls++) {
                Check.due("a call before", group.makeVolume(), calls);
            }
            Check.due("power before", group.power(), 1);
            Check.dueThrow("the next one", Check.STATE, () -> group.makeVolume());
            Check.due("writes", group.writes(), n);
            Check.due("power", group.power(), 0);
        }
    }

    private static void powerOffAndNothingBehind() {
        Consumer<MirrorGroup> scene = Scenes.split(1).andThen(group -> {
            for (int block = 0; block < 8; block++) {
                group.write(0, 1, block, 3, block + 1);
            }
            group.rejoin(0, 1);
        });
        Writes due = Writes.none();
        for (int block = 0; block < 8; block++) {
            due.thenBlock(0, 0, block, 0, 0, 0, block + 1);
        }
        due.thenHeader(Picture.row(5, "0,0,0")).areDoneBy(scene, group -> group.step(0));
    }

    private static void powerOffWithRightArguments() {
        MirrorGroup group = Scenes.after(Scenes.off(Scenes.oneOfEachState()));
        int before = group.writes();
        Check.dueThrow("makeVolume", Check.STATE, () -> group.makeVolume());
        Check.dueThrow("write", Check.STATE, () -> group.write(3, 0, 0, 0, 1));
        Check.dueThrow("fill", Check.STATE, () -> group.fill(3, 0, 0, 1, 1, 1, 1));
        Check.dueThrow("read", Check.STATE, () -> group.read(3, 0, 0, 0));
        Check.dueThrow("split", Check.STATE, () -> group.split());
        Check.dueThrow("rejoin", Check.STATE, () -> group.rejoin(0, 0));
        Check.dueThrow("step", Check.STATE, () -> group.step(1));
        Check.dueThrow("run", Check.STATE, () -> group.run(2));
        Check.due("writes", group.writes(), before);
        Check.due("power", group.power(), 0);
        Check.due("header number", group.head(0, 0), 7);
    }

    private static void powerOffWithWrongArguments() {
        MirrorGroup full = Scenes.after(Scenes.off(Scenes.joined(6)));
        Check.dueThrow("makeVolume, not NONE", Check.STATE, () -> full.makeVolume());
        Check.dueThrow("step, not Unsupported", Check.STATE, () -> full.step(0));
        Check.dueThrow("run, not Unsupported", Check.STATE, () -> full.run(0));
        Check.dueThrow("rejoin, not Unsupported", Check.STATE, () -> full.rejoin(0, 0));
        MirrorGroup empty = Scenes.after(Scenes.off(Scenes.joined(0)));
        Check.dueThrow("split, not 0", Check.STATE, () -> empty.split());
        for (int outside : Scenes.OUTSIDE) {
            Check.dueThrow("write", Check.STATE, () -> full.write(outside, 0, 0, 0, 1));
            Check.dueThrow("write", Check.STATE, () -> full.write(0, 0, outside, outside, 1));
            Check.dueThrow("fill", Check.STATE, () -> full.fill(outside, 0, 0, 1, 1, 1, 1));
            Check.dueThrow("fill", Check.STATE, () -> full.fill(0, 0, outside, 1, 1, 1, 1));
            Check.dueThrow("read", Check.STATE, () -> full.read(outside, 0, 0, 0));
            Check.dueThrow("read", Check.STATE, () -> full.read(0, 0, outside, outside));
            Check.dueThrow("rejoin", Check.STATE, () -> full.rejoin(outside, 0));
            Check.dueThrow("rejoin", Check.STATE, () -> full.rejoin(0, outside));
            Check.dueThrow("step", Check.STATE, () -> full.step(outside));
            Check.dueThrow("run", Check.STATE, () -> full.run(outside));
        }
        MirrorGroup split = Scenes.after(Scenes.off(Scenes.split(1)));
        Check.dueThrow("write, split, no side", Check.STATE, () -> split.write(0, 2, 0, 0, 1));
        Check.dueThrow("read, split, no side", Check.STATE, () -> split.read(0, 2, 0, 0));
    }

    private static void powerStartGoesOn() {
        MirrorGroup group = Scenes.after(Scenes.off(Scenes.joined(6)));
        Check.due("start", group.start(), 6);
        Check.due("power", group.power(), 1);
        Check.due("calls go on too", group.split(), 6);
    }
}

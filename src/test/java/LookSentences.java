import java.util.List;
import java.util.function.Consumer;

/** Promises 10 to 16: state, marked, windowed, volumes, differing, raw, head. */
final class LookSentences {
    private static final String STATE = "A volume's state; NONE when there is none such, or power "
            + "is off.";
    private static final String MARKED = "A side's map of a volume; NONE when there is none such, "
            + "or power is off.";
    private static final String WINDOWED = "Place i of the window: 8 times the volume, and the "
            + "region; NONE when there is none such, or power is off.";
    private static final String VOLUMES = "How many volumes there are; NONE when power is off.";
    private static final String DIFFERING = "How many blocks of a volume are not the same on both "
            + "sides, whether power is on or off.";
    private static final String RAW = "A word as it stands on a side, whether power is on or off.";
    private static final String RAW_NONE = "IndexOutOfBoundsException when the volume is not "
            + "0 .. 5, or there is no such side, block or word.";
    private static final String HEAD = "The header as it stands on a side, whether power is on or "
            + "off:";
    private static final String HEAD_ITEMS = "its number (what 0), how many volumes (1), the state "
            + "of volume 0 .. 5 (2 .. 7), its maps of side 0 (8 .. 13) and side 1 (14 .. 19), the "
            + "window's places (20 .. 23, as for windowed());";

    private LookSentences() {
    }

    static List<Sentence> all() {
        return List.of(
            new Sentence("Promise 10", STATE, LookSentences::promise10EachState),
            new Sentence("Promise 10", STATE, LookSentences::promise10NoneSuch),
            new Sentence("Promise 10", STATE, LookSentences::promise10PowerIsOff),
            new Sentence("Promise 11", MARKED, LookSentences::promise11EmptyToFull),
            new Sentence("Promise 11", MARKED, LookSentences::promise11NoSuchVolume),
            new Sentence("Promise 11", MARKED, LookSentences::promise11NoSuchSide),
            new Sentence("Promise 11", MARKED, LookSentences::promise11PowerIsOff),
            new Sentence("Promise 12", WINDOWED, LookSentences::promise12SmallestAndGreatest),
            new Sentence("Promise 12", WINDOWED, LookSentences::promise12EmptyToFull),
            new Sentence("Promise 12", WINDOWED, LookSentences::promise12NoSuchPlace),
            new Sentence("Promise 12", WINDOWED, LookSentences::promise12PowerIsOff),
            new Sentence("Promise 13", VOLUMES, LookSentences::promise13NoneToSix),
            new Sentence("Promise 13", VOLUMES, LookSentences::promise13PowerIsOff),
            new Sentence("Promise 14", DIFFERING, LookSentences::promise14NoneToAll),
            new Sentence("Promise 14", DIFFERING, LookSentences::promise14OneWordIsEnough),
            new Sentence("Promise 14", DIFFERING, LookSentences::promise14VolumesToCome),
            new Sentence("Promise 14", DIFFERING, LookSentences::promise14PowerIsOff),
            new Sentence("Promise 14", "IndexOutOfBoundsException when the volume is not 0 .. 5.",
                LookSentences::promise14VolumeOutside),
            new Sentence("Promise 15", RAW, LookSentences::promise15EitherSide),
            new Sentence("Promise 15", RAW, LookSentences::promise15VolumesToCome),
            new Sentence("Promise 15", RAW, LookSentences::promise15PowerIsOff),
            new Sentence("Promise 15", RAW_NONE, LookSentences::promise15Outside),
            new Sentence("Promise 15", RAW_NONE, LookSentences::promise15OutsideWhileOff),
            new Sentence("Promise 16", HEAD, LookSentences::promise16EachSideItsOwn),
            new Sentence("Promise 16", HEAD_ITEMS, LookSentences::promise16EachItem),
            new Sentence("Promise 16", "NONE when there is no such volume or place.",
                LookSentences::promise16NoSuchVolumeOrPlace),
            new Sentence("Promise 16",
                "IndexOutOfBoundsException when there is no such side or what.",
                LookSentences::promise16NoSuchSideOrWhat));
    }

    private static void promise10EachState() {
        MirrorGroup group = Scenes.after(Scenes.oneOfEachState());
        Check.due("split", group.state(0), 1);
        Check.due("rejoining to side 0", group.state(1), 2);
        Check.due("rejoining to side 1", group.state(2), 3);
        Check.due("joined", group.state(3), 0);
    }

    private static void promise10NoneSuch() {
        MirrorGroup group = new MirrorGroup();
        for (int count = 0; count <= 6; count++) {
            Check.due("the next one", group.state(count), -1);
            for (int outside : Scenes.OUTSIDE) {
                Check.due("outside", group.state(outside), -1);
            }
            Check.due("seventh", group.state(6), -1);
            if (count < 6) {
                group.makeVolume();
                Check.due("the last one", group.state(count), 0);
            }
        }
    }

    private static void promise10PowerIsOff() {
        MirrorGroup group = Scenes.after(Scenes.off(Scenes.oneOfEachState()));
        for (int volume = -1; volume < 7; volume++) {
            Check.due("off", group.state(volume), -1);
        }
        group.start();
        Check.due("on again", group.state(2), 3);
    }

    private static void promise11EmptyToFull() {
        MirrorGroup group = Scenes.after(Scenes.joined(2));
        Check.due("joined", group.marked(1, 0), 0);
        group.split();
        int map = 0;
        for (int region = 0; region < 8; region++) {
            group.write(1, 1, 8 * region + 7, 0, 1);
            map += 1 << region;
            Check.due("side 1", group.marked(1, 1), map);
            Check.due("side 0", group.marked(1, 0), 0);
            Check.due("the other volume", group.marked(0, 1), 0);
        }
        group.rejoin(1, 0);
        Check.due("rejoining", group.marked(1, 1), 255);
        group.step(1);
        Check.due("one less", group.marked(1, 1), 254);
    }

    private static void promise11NoSuchVolume() {
        MirrorGroup group = new MirrorGroup();
        Check.due("no volume at all", group.marked(0, 0), -1);
        for (int count = 1; count <= 6; count++) {
            group.makeVolume();
            Check.due("the last one", group.marked(count - 1, 1), 0);
            Check.due("the next one", group.marked(count, 1), -1);
            for (int outside : Scenes.OUTSIDE) {
                Check.due("outside", group.marked(outside, 0), -1);
            }
        }
    }

    private static void promise11NoSuchSide() {
        MirrorGroup full = Scenes.after(Scenes.sixWithFullMaps());
        for (int volume = 0; volume < 6; volume++) {
            Check.due("side 2 of six", full.marked(volume, 2), -1);
            Check.due("side -1 of six", full.marked(volume, -1), -1);
        }
        MirrorGroup group = Scenes.after(Scenes.rejoining(0));
        Check.due("side 2", group.marked(0, 2), -1);
        for (int outside : Scenes.OUTSIDE) {
            Check.due("outside", group.marked(0, outside), -1);
        }
        Check.due("side 0", group.marked(0, 0), 1);
        Check.due("side 1", group.marked(0, 1), 4);
    }

    private static void promise11PowerIsOff() {
        MirrorGroup group = Scenes.after(Scenes.off(Scenes.rejoining(0)));
        Check.due("off, side 0", group.marked(0, 0), -1);
        Check.due("off, side 1", group.marked(0, 1), -1);
        Check.due("off, no such volume", group.marked(1, 0), -1);
        group.start();
        Check.due("on again", group.marked(0, 1), 4);
    }

    private static void promise12SmallestAndGreatest() {
        MirrorGroup group = Scenes.after(Scenes.joined(6));
        group.write(0, 0, 0, 0, 1);
        group.write(5, 0, 63, 0, 1);
        group.write(1, 0, 0, 0, 1);
        group.write(0, 0, 63, 0, 1);
        Scenes.dueWindow("window", group, 0, 47, 8, 7);
    }

    private static void promise12EmptyToFull() {
        MirrorGroup group = Scenes.after(Scenes.joined(1));
        Scenes.dueWindow("empty", group, -1, -1, -1, -1);
        group.write(0, 0, 0, 0, 1);
        Scenes.dueWindow("one", group, 0, -1, -1, -1);
        group.write(0, 0, 8, 0, 1);
        group.write(0, 0, 16, 0, 1);
        Scenes.dueWindow("three", group, 0, 1, 2, -1);
        group.write(0, 0, 24, 0, 1);
        Scenes.dueWindow("full", group, 0, 1, 2, 3);
    }

    private static void promise12NoSuchPlace() {
        for (Consumer<MirrorGroup> scene : List.of(Scenes.joined(1), Scenes.fullWindow(1),
                Scenes.fullWindow(6), Scenes.sixWithFullMaps())) {
            MirrorGroup group = Scenes.after(scene);
            Check.due("place 4", group.windowed(4), -1);
            Check.due("place 5", group.windowed(5), -1);
            for (int outside : Scenes.OUTSIDE) {
                Check.due("outside", group.windowed(outside), -1);
            }
        }
    }

    private static void promise12PowerIsOff() {
        MirrorGroup group = Scenes.after(Scenes.off(Scenes.fullWindow(1)));
        Scenes.dueWindow("off", group, -1, -1, -1, -1);
        Check.due("off, place 4", group.windowed(4), -1);
        Check.due("it stands on side 0", group.head(0, 23), 3);
    }

    private static void promise13NoneToSix() {
        MirrorGroup group = new MirrorGroup();
        for (int count = 0; count < 6; count++) {
            Check.due("volumes", group.volumes(), count);
            group.makeVolume();
        }
        Check.due("six", group.volumes(), 6);
        group.makeVolume();
        Check.due("six still", group.volumes(), 6);
    }

    private static void promise13PowerIsOff() {
        for (int count = 0; count <= 6; count++) {
            MirrorGroup group = Scenes.after(Scenes.off(Scenes.joined(count)));
            Check.due("off", group.volumes(), -1);
            group.start();
            Check.due("on again", group.volumes(), count);
        }
    }

    private static void promise14NoneToAll() {
        MirrorGroup group = Scenes.after(Scenes.split(2));
        Check.due("none", group.differing(1), 0);
        for (int block = 0; block < 64; block++) {
            group.write(1, block % 2, block, block % 4, 1);
            Check.due("blocks", group.differing(1), block + 1);
        }
        Check.due("the other volume", group.differing(0), 0);
        group.write(1, 1, 0, 0, 1);
        Check.due("one is the same again", group.differing(1), 63);
    }

    private static void promise14OneWordIsEnough() {
        for (int word = 0; word < 4; word++) {
            MirrorGroup group = Scenes.after(Scenes.split(1));
            group.fill(0, 0, 63, 5, 5, 5, 5);
            group.fill(0, 1, 63, 5, 5, 5, 5);
            Check.due("the same", group.differing(0), 0);
            group.write(0, 1, 63, word, 6);
            Check.due("word " + word, group.differing(0), 1);
        }
    }

    private static void promise14VolumesToCome() {
        MirrorGroup group = new MirrorGroup();
        for (int volume = 0; volume < 6; volume++) {
            Check.due("volume " + volume, group.differing(volume), 0);
        }
    }

    private static void promise14PowerIsOff() {
        MirrorGroup group = Scenes.after(Scenes.off(Scenes.rejoining(0)));
        Check.due("off", group.differing(0), 2);
        MirrorGroup cut = Scenes.after(
            Scenes.joined(1).andThen(Scenes.cut(3, other -> other.write(0, 0, 0, 0, 1))));
        Check.due("cut between both sides", cut.differing(0), 1);
    }

    private static void promise14VolumeOutside() {
        for (Consumer<MirrorGroup> scene
                : List.of(Scenes.joined(0), Scenes.joined(6), Scenes.off(Scenes.joined(6)))) {
            MirrorGroup group = Scenes.after(scene);
            Check.due("volume 5", group.differing(5), 0);
            Check.dueThrow("volume 6", Check.INDEX, () -> group.differing(6));
            for (int outside : Scenes.OUTSIDE) {
                Check.dueThrow("outside", Check.INDEX, () -> group.differing(outside));
            }
        }
    }

    private static void promise15EitherSide() {
        MirrorGroup group = Scenes.after(Scenes.split(6));
        for (int volume : new int[] {0, 5}) {
            for (int side = 0; side < 2; side++) {
                for (int block : new int[] {0, 63}) {
                    int base = 100 * volume + 50 * side + block;
                    group.fill(volume, side, block, base, -base, base + 1, base + 2);
                }
            }
        }
        for (int volume : new int[] {0, 5}) {
            for (int side = 0; side < 2; side++) {
                for (int block : new int[] {0, 63}) {
                    int base = 100 * volume + 50 * side + block;
                    int[] due = {base, -base, base + 1, base + 2};
                    Scenes.dueBlock("volume " + volume, group, volume, side, block, due);
                }
            }
        }
    }

    private static void promise15VolumesToCome() {
        MirrorGroup group = new MirrorGroup();
        for (int volume = 0; volume < 6; volume++) {
            Check.due("side 0", group.raw(volume, 0, 0, 0), 0);
            Check.due("side 1", group.raw(volume, 1, 63, 3), 0);
        }
    }

    private static void promise15PowerIsOff() {
        MirrorGroup group = Scenes.after(
            Scenes.joined(1).andThen(Scenes.cut(3, other -> other.fill(0, 0, 63, 1, 2, 3, 4))));
        Scenes.dueBlock("off", group, 0, 0, 63, 1, 2, 3, 4);
        Scenes.dueBlock("off", group, 0, 1, 63, 0, 0, 0, 0);
        Check.due("off, a volume to come", group.raw(5, 1, 63, 3), 0);
    }

    private static void promise15Outside() {
        dueRawOutside(new MirrorGroup());
        dueRawOutside(Scenes.after(Scenes.joined(6)));
        dueRawOutside(Scenes.after(Scenes.split(1)));
    }

    private static void promise15OutsideWhileOff() {
        dueRawOutside(Scenes.after(Scenes.off(Scenes.joined(6))));
    }

    private static void dueRawOutside(MirrorGroup group) {
        for (int outside : Scenes.OUTSIDE) {
            Check.dueThrow("volume", Check.INDEX, () -> group.raw(outside, 0, 0, 0));
            Check.dueThrow("side", Check.INDEX, () -> group.raw(0, outside, 0, 0));
            Check.dueThrow("block", Check.INDEX, () -> group.raw(0, 0, outside, 0));
            Check.dueThrow("word", Check.INDEX, () -> group.raw(0, 0, 0, outside));
        }
        Check.dueThrow("volume 6", Check.INDEX, () -> group.raw(6, 0, 0, 0));
        Check.dueThrow("side 2", Check.INDEX, () -> group.raw(0, 2, 0, 0));
        Check.dueThrow("block 64", Check.INDEX, () -> group.raw(0, 0, 64, 0));
        Check.dueThrow("word 4", Check.INDEX, () -> group.raw(0, 0, 0, 4));
        Check.dueThrow("the last of all", Check.NOTHING, () -> group.raw(5, 1, 63, 3));
    }

    private static void dueHeader(String what, MirrorGroup group, int side, int[] due) {
        for (int item = 0; item < 24; item++) {
            Check.due(what + ", side " + side + ", what " + item, group.head(side, item), due[item]);
        }
    }

    private static void promise16EachSideItsOwn() {
        MirrorGroup on = Scenes.after(Scenes.fullWindow(1));
        dueHeader("on", on, 0, Picture.row(5, "0,0,0", 0, 1, 2, 3));
        dueHeader("on", on, 1, Picture.row(5, "0,0,0", 0, 1, 2, 3));
        MirrorGroup off = Scenes.after(
            Scenes.fullWindow(1).andThen(Scenes.cut(1, group -> group.split())));
        dueHeader("off", off, 0, Picture.row(6, "1,0,0"));
        dueHeader("off", off, 1, Picture.row(5, "0,0,0", 0, 1, 2, 3));
    }

    private static void promise16EachItem() {
        MirrorGroup group = Scenes.after(Scenes.split(6));
        for (int volume = 0; volume < 6; volume++) {
            group.write(volume, 0, 8 * volume, 0, 1);
            group.write(volume, 1, 8 * volume + 16, 0, 1);
        }
        group.rejoin(5, 1);
        group.rejoin(4, 0);
        group.write(5, 0, 0, 0, 1);
        group.write(4, 0, 0, 0, 1);
        group.write(5, 0, 8, 0, 1);
        group.write(4, 0, 8, 0, 1);
        int[] due = Picture.row(25, "1,1,4 1,2,8 1,4,16 1,8,32 2,16,64 3,32,128", 40, 32, 41, 33);
        dueHeader("all six", group, 0, due);
        dueHeader("all six", group, 1, due);
    }

    private static void promise16NoSuchVolumeOrPlace() {
        for (int count = 0; count <= 6; count++) {
            MirrorGroup group = Scenes.after(Scenes.joined(count));
            for (int volume = 0; volume < 6; volume++) {
                int due = volume < count ? 0 : -1;
                Check.due("state of " + volume, group.head(0, 2 + volume), due);
                Check.due("side 0's map of " + volume, group.head(0, 8 + volume), due);
                Check.due("side 1's map of " + volume, group.head(1, 14 + volume), due);
            }
        }
        MirrorGroup group = Scenes.after(Scenes.joined(1));
        for (int size = 0; size <= 4; size++) {
            for (int place = 0; place < 4; place++) {
                Check.due("place " + place, group.head(1, 20 + place), place < size ? place : -1);
            }
            group.write(0, 0, 8 * size, 0, 1);
        }
    }

    private static void promise16NoSuchSideOrWhat() {
        for (Consumer<MirrorGroup> scene
                : List.of(Scenes.joined(0), Scenes.fullWindow(6), Scenes.off(Scenes.joined(6)))) {
            MirrorGroup group = Scenes.after(scene);
            for (int outside : Scenes.OUTSIDE) {
                Check.dueThrow("side", Check.INDEX, () -> group.head(outside, 0));
                Check.dueThrow("what", Check.INDEX, () -> group.head(0, outside));
                Check.dueThrow("what", Check.INDEX, () -> group.head(1, outside));
            }
            Check.dueThrow("side 2", Check.INDEX, () -> group.head(2, 0));
            Check.dueThrow("what 24", Check.INDEX, () -> group.head(0, 24));
            Check.dueThrow("what 24", Check.INDEX, () -> group.head(1, 24));
            Check.dueThrow("what 23", Check.NOTHING, () -> group.head(1, 23));
        }
    }
}

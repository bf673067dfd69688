/** For each promise of the document: ordinary inputs, the edges that it names, wrong inputs. */
public final class PromiseTest {
    private static final int[] OUTSIDE = {-1, Integer.MIN_VALUE, Integer.MAX_VALUE};

    public static void main(String[] args) {
        promise1NewObject();
        promise2MakeVolume();
        promise3WriteJoined();
        promise3Window();
        promise3WriteSplit();
        promise3WriteRejoining();
        promise3WrongInputs();
        promise4Fill();
        promise5Read();
        promise6Split();
        promise6SplitKeepsOthersInWindow();
        promise7Rejoin();
        promise8Step();
        promise9Run();
        promise10State();
        promise11Marked();
        promise12Windowed();
        promise13Volumes();
        promise14Differing();
        promise15Raw();
        promise16Head();
        promise17Copied();
        promise18Writes();
        promise19Power();
        promise20CutAfter();
        promise21Start();
        promise21StartMendsTheWindow();
        powerOffComesFirst();
        Check.finish("PromiseTest");
    }

    private static MirrorGroup withVolumes(int count) {
        MirrorGroup group = new MirrorGroup();
        for (int i = 0; i < count; i++) {
            group.makeVolume();
        }
        return group;
    }

    private static MirrorGroup splitWithVolumes(int count) {
        MirrorGroup group = withVolumes(count);
        group.split();
        return group;
    }

    /** Volume 0 rejoins with a winner; region 0 has side 0's bit, region 2 side 1's. */
    private static MirrorGroup rejoining(int winner) {
        MirrorGroup group = splitWithVolumes(1);
        group.fill(0, 0, 0, 10, 11, 12, 13);
        group.fill(0, 1, 16, 20, 21, 22, 23);
        group.rejoin(0, winner);
        return group;
    }

    private static void cutPower(MirrorGroup group) {
        group.cutAfter(0);
        Check.dueThrow("the call that power cuts", Check.STATE, () -> failingCall(group));
    }

    /** Any call that is sure to want a write. */
    private static void failingCall(MirrorGroup group) {
        if (group.volumes() < 6) {
            group.makeVolume();
        } else {
            group.write(0, 0, 0, 0, 1);
        }
    }

    private static void dueWindow(String what, MirrorGroup group, int a, int b, int c, int d) {
        Check.due(what + ", place 0", group.windowed(0), a);
        Check.due(what + ", place 1", group.windowed(1), b);
        Check.due(what + ", place 2", group.windowed(2), c);
        Check.due(what + ", place 3", group.windowed(3), d);
    }

    private static void promise1NewObject() {
        MirrorGroup group = new MirrorGroup();
        Check.due("1 volumes", group.volumes(), 0);
        Check.due("1 power", group.power(), 1);
        Check.due("1 writes", group.writes(), 0);
        Check.due("1 copied", group.copied(), 0);
        dueWindow("1 window", group, -1, -1, -1, -1);
        for (int side = 0; side < 2; side++) {
            Check.due("1 number", group.head(side, 0), 0);
            Check.due("1 count", group.head(side, 1), 0);
            for (int what = 2; what < 24; what++) {
                Check.due("1 head " + what, group.head(side, what), -1);
            }
        }
        for (int volume = 0; volume < 6; volume++) {
            Check.due("1 word", group.raw(volume, 1, 63, 3), 0);
            Check.due("1 differing", group.differing(volume), 0);
        }
        for (int i = 0; i < 6; i++) {
            Check.due("1 nothing is to fail", group.makeVolume(), i);
        }
    }

    private static void promise2MakeVolume() {
        MirrorGroup group = new MirrorGroup();
        for (int i = 0; i < 6; i++) {
            Check.due("2 number", group.makeVolume(), i);
            Check.due("2 writes", group.writes(), 2 * (i + 1));
            Check.due("2 state", group.state(i), 0);
            Check.due("2 map 0", group.marked(i, 0), 0);
            Check.due("2 map 1", group.marked(i, 1), 0);
            Check.due("2 header number", group.head(1, 0), i + 1);
            Check.due("2 header count", group.head(0, 1), i + 1);
        }
        Check.due("2 a seventh", group.makeVolume(), -1);
        Check.due("2 a seventh writes nothing", group.writes(), 12);
        Check.due("2 a seventh is none", group.volumes(), 6);
        group.cutAfter(0);
        Check.due("2 a seventh wants no write", group.makeVolume(), -1);
        Check.due("2 power stays on", group.power(), 1);

        MirrorGroup late = splitWithVolumes(1);
        Check.due("2 behind a split", late.makeVolume(), 1);
        Check.due("2 joined behind a split", late.state(1), 0);
        Check.due("2 the other stays split", late.state(0), 1);
    }

    private static void promise3WriteJoined() {
        MirrorGroup group = withVolumes(2);
        group.write(1, 77, 63, 3, -5);
        Check.due("3 side 0", group.raw(1, 0, 63, 3), -5);
        Check.due("3 side 1", group.raw(1, 1, 63, 3), -5);
        Check.due("3 the word beside it", group.raw(1, 0, 63, 2), 0);
        Check.due("3 the other volume", group.raw(0, 0, 63, 3), 0);
        Check.due("3 writes, header twice and block twice", group.writes(), 8);
        group.write(1, -9, 63, 3, -5);
        Check.due("3 the same once more is written too", group.writes(), 10);
        group.write(1, 0, 56, 0, 4);
        Check.due("3 the same region needs no header", group.writes(), 12);
        Check.due("3 header number", group.head(0, 0), 3);

        group.cutAfter(1);
        Check.dueThrow("3 cut between both sides", Check.STATE, () -> group.write(1, 0, 63, 0, 9));
        Check.due("3 side 0 comes first", group.raw(1, 0, 63, 0), 9);
        Check.due("3 side 1 comes then", group.raw(1, 1, 63, 0), 0);
    }

    private static void promise3Window() {
        MirrorGroup group = withVolumes(2);
        group.write(0, 0, 8, 0, 1);
        group.write(1, 0, 63, 0, 1);
        group.write(0, 0, 0, 0, 1);
        group.write(0, 0, 31, 0, 1);
        dueWindow("3 window", group, 1, 15, 0, 3);
        group.write(0, 0, 15, 0, 1);
        dueWindow("3 a region in the window stays where it is", group, 1, 15, 0, 3);
        int before = group.writes();
        group.write(1, 0, 39, 0, 1);
        dueWindow("3 the oldest one goes", group, 15, 0, 3, 12);
        Check.due("3 writes", group.writes(), before + 4);
        group.write(0, 0, 8, 0, 1);
        dueWindow("3 it comes back behind the others", group, 0, 3, 12, 1);
        for (int i = 0; i < 4; i++) {
            Check.due("3 window on side 0", group.head(0, 20 + i), group.windowed(i));
            Check.due("3 window on side 1", group.head(1, 20 + i), group.windowed(i));
        }
    }

    private static void promise3WriteSplit() {
        MirrorGroup group = splitWithVolumes(1);
        int before = group.writes();
        group.write(0, 1, 20, 2, 6);
        Check.due("3 split, the side", group.raw(0, 1, 20, 2), 6);
        Check.due("3 split, the other side", group.raw(0, 0, 20, 2), 0);
        Check.due("3 split, writes", group.writes(), before + 3);
        Check.due("3 split, its map", group.marked(0, 1), 4);
        Check.due("3 split, the other map", group.marked(0, 0), 0);
        group.write(0, 1, 23, 2, 6);
        Check.due("3 split, bit set already", group.writes(), before + 4);
        group.write(0, 0, 23, 1, 7);
        Check.due("3 split, the other side's bit is its own", group.writes(), before + 7);
        Check.due("3 split, both maps", group.marked(0, 0), 4);
        Check.due("3 split, the block is the side's own", group.raw(0, 0, 23, 2), 0);
        dueWindow("3 split, no window", group, -1, -1, -1, -1);
        group.write(0, 0, 63, 0, 1);
        Check.due("3 split, the last region", group.marked(0, 0), 132);
    }

    private static void promise3WriteRejoining() {
        for (int winner = 0; winner < 2; winner++) {
            int loser = 1 - winner;
            MirrorGroup group = rejoining(winner);
            int before = group.writes();
            group.write(0, loser, 1, 0, 5);
            group.write(0, 9, 17, 0, 6);
            Check.due("3 marked, winner", group.raw(0, winner, 1, 0), 5);
            Check.due("3 marked, other", group.raw(0, loser, 1, 0), 0);
            Check.due("3 marked by one of both, winner", group.raw(0, winner, 17, 0), 6);
            Check.due("3 marked by one of both, other", group.raw(0, loser, 17, 0), 0);
            Check.due("3 marked, one write each", group.writes(), before + 2);
            dueWindow("3 marked, no window", group, -1, -1, -1, -1);

            group.write(0, loser, 9, 0, 7);
            Check.due("3 unmarked, winner", group.raw(0, winner, 9, 0), 7);
            Check.due("3 unmarked, other", group.raw(0, loser, 9, 0), 7);
            Check.due("3 unmarked, writes", group.writes(), before + 6);
            dueWindow("3 unmarked", group, 1, -1, -1, -1);

            group.cutAfter(1);
            Check.dueThrow("3 cut", Check.STATE, () -> group.write(0, loser, 9, 1, 8));
            Check.due("3 the winner comes first", group.raw(0, winner, 9, 1), 8);
            Check.due("3 the other comes then", group.raw(0, loser, 9, 1), 0);
        }
    }

    private static void promise3WrongInputs() {
        MirrorGroup group = withVolumes(2);
        int before = group.writes();
        for (int outside : OUTSIDE) {
            Check.dueThrow("3 volume", Check.INDEX, () -> group.write(outside, 0, 0, 0, 1));
            Check.dueThrow("3 block", Check.INDEX, () -> group.write(0, 0, outside, 0, 1));
            Check.dueThrow("3 word", Check.INDEX, () -> group.write(0, 0, 0, outside, 1));
            Check.dueThrow("3 side", Check.NOTHING, () -> group.write(0, outside, 0, 0, 1));
        }
        Check.dueThrow("3 volume 2", Check.INDEX, () -> group.write(2, 0, 0, 0, 1));
        Check.dueThrow("3 block 64", Check.INDEX, () -> group.write(0, 0, 64, 0, 1));
        Check.dueThrow("3 word 4", Check.INDEX, () -> group.write(0, 0, 0, 4, 1));
        Check.due("3 what is refused writes nothing", group.writes(), before + 2 + 6);
        group.split();
        for (int outside : OUTSIDE) {
            Check.dueThrow("3 side, split", Check.INDEX, () -> group.write(0, outside, 0, 0, 1));
        }
        Check.dueThrow("3 side 2, split", Check.INDEX, () -> group.write(0, 2, 0, 0, 1));
        group.rejoin(0, 1);
        Check.dueThrow("3 side 2, rejoining", Check.NOTHING, () -> group.write(0, 2, 0, 0, 1));
    }

    private static void promise4Fill() {
        MirrorGroup group = withVolumes(1);
        group.fill(0, 8, 63, 1, -2, 3, 4);
        for (int side = 0; side < 2; side++) {
            Check.due("4 a", group.raw(0, side, 63, 0), 1);
            Check.due("4 b", group.raw(0, side, 63, 1), -2);
            Check.due("4 c", group.raw(0, side, 63, 2), 3);
            Check.due("4 d", group.raw(0, side, 63, 3), 4);
            Check.due("4 the block before", group.raw(0, side, 62, 3), 0);
        }
        Check.due("4 writes", group.writes(), 6);
        dueWindow("4 window", group, 7, -1, -1, -1);
        for (int outside : OUTSIDE) {
            Check.dueThrow("4 volume", Check.INDEX, () -> group.fill(outside, 0, 0, 1, 1, 1, 1));
            Check.dueThrow("4 block", Check.INDEX, () -> group.fill(0, 0, outside, 1, 1, 1, 1));
        }
        Check.dueThrow("4 volume 1", Check.INDEX, () -> group.fill(1, 0, 0, 1, 1, 1, 1));
        Check.dueThrow("4 block 64", Check.INDEX, () -> group.fill(0, 0, 64, 1, 1, 1, 1));
        group.split();
        Check.dueThrow("4 side, split", Check.INDEX, () -> group.fill(0, 2, 0, 1, 1, 1, 1));
        Check.dueThrow("4 side, split", Check.INDEX, () -> group.fill(0, -1, 0, 1, 1, 1, 1));
        int before = group.writes();
        group.fill(0, 1, 63, 5, 6, 7, 8);
        Check.due("4 split, one side", group.raw(0, 1, 63, 3), 8);
        Check.due("4 split, not the other", group.raw(0, 0, 63, 3), 4);
        Check.due("4 split, writes", group.writes(), before + 3);
        group.rejoin(0, 0);
        group.fill(0, 1, 62, 9, 9, 9, 9);
        Check.due("4 rejoining, the winner alone", group.raw(0, 0, 62, 0), 9);
        Check.due("4 rejoining, not the other", group.raw(0, 1, 62, 0), 0);
    }

    private static void promise5Read() {
        MirrorGroup group = withVolumes(1);
        group.fill(0, 0, 5, 1, 2, 3, 4);
        for (int word = 0; word < 4; word++) {
            Check.due("5 joined", group.read(0, 33, 5, word), word + 1);
        }
        int before = group.writes();
        for (int outside : OUTSIDE) {
            Check.dueThrow("5 volume", Check.INDEX, () -> group.read(outside, 0, 0, 0));
            Check.dueThrow("5 block", Check.INDEX, () -> group.read(0, 0, outside, 0));
            Check.dueThrow("5 word", Check.INDEX, () -> group.read(0, 0, 0, outside));
        }
        Check.dueThrow("5 volume 1", Check.INDEX, () -> group.read(1, 0, 0, 0));
        Check.dueThrow("5 block 64", Check.INDEX, () -> group.read(0, 0, 64, 0));
        Check.dueThrow("5 word 4", Check.INDEX, () -> group.read(0, 0, 0, 4));
        Check.due("5 reads write nothing", group.writes(), before);
        group.split();
        group.write(0, 0, 5, 0, 50);
        group.write(0, 1, 5, 0, 51);
        Check.due("5 split, side 0", group.read(0, 0, 5, 0), 50);
        Check.due("5 split, side 1", group.read(0, 1, 5, 0), 51);
        Check.dueThrow("5 split, side 2", Check.INDEX, () -> group.read(0, 2, 5, 0));
        Check.dueThrow("5 split, side -1", Check.INDEX, () -> group.read(0, -1, 5, 0));
        for (int winner = 0; winner < 2; winner++) {
            MirrorGroup mixed = rejoining(winner);
            Check.due("5 rejoining", mixed.read(0, 5, 0, 0), winner == 0 ? 10 : 0);
            Check.due("5 rejoining", mixed.read(0, 1 - winner, 16, 3), winner == 0 ? 0 : 23);
        }
    }

    private static void promise6Split() {
        MirrorGroup empty = new MirrorGroup();
        Check.due("6 no volumes", empty.split(), 0);
        Check.due("6 no volumes, no write", empty.writes(), 0);

        MirrorGroup group = withVolumes(3);
        group.write(1, 0, 0, 0, 1);
        int before = group.writes();
        Check.due("6 all", group.split(), 3);
        Check.due("6 one header write", group.writes(), before + 2);
        for (int volume = 0; volume < 3; volume++) {
            Check.due("6 state", group.state(volume), 1);
            Check.due("6 map 0", group.marked(volume, 0), 0);
            Check.due("6 map 1", group.marked(volume, 1), 0);
            Check.due("6 on side 1", group.head(1, 2 + volume), 1);
        }
        dueWindow("6 window", group, -1, -1, -1, -1);
        group.write(0, 0, 0, 0, 2);
        before = group.writes();
        Check.due("6 none is joined", group.split(), 0);
        Check.due("6 none is joined, no write", group.writes(), before);
        Check.due("6 a split one keeps its map", group.marked(0, 0), 1);
        group.makeVolume();
        Check.due("6 the new one alone", group.split(), 1);
    }

    private static void promise6SplitKeepsOthersInWindow() {
        MirrorGroup group = rejoining(1);
        group.makeVolume();
        group.write(1, 0, 0, 0, 1);
        group.write(0, 0, 8, 0, 1);
        group.write(1, 0, 8, 0, 1);
        group.write(0, 0, 56, 0, 1);
        dueWindow("6 before", group, 8, 1, 9, 7);
        Check.due("6 one is joined", group.split(), 1);
        Check.due("6 the rejoining one stays so", group.state(0), 3);
        Check.due("6 its map stays", group.marked(0, 1), 4);
        dueWindow("6 its regions stay", group, 1, 7, -1, -1);
        Check.due("6 on side 0", group.head(0, 21), 7);
        Check.due("6 on side 1", group.head(1, 22), -1);
    }

    private static void promise7Rejoin() {
        for (int winner = 0; winner < 2; winner++) {
            MirrorGroup group = splitWithVolumes(2);
            group.write(0, 0, 0, 0, 1);
            group.write(0, 1, 63, 0, 1);
            int before = group.writes();
            group.rejoin(0, winner);
            Check.due("7 state", group.state(0), 2 + winner);
            Check.due("7 map 0", group.marked(0, 0), 1);
            Check.due("7 map 1", group.marked(0, 1), 128);
            Check.due("7 writes", group.writes(), before + 2);
            Check.due("7 the other volume", group.state(1), 1);
            Check.due("7 nothing is copied yet", group.differing(0), 2);
            Check.dueThrow("7 twice", Check.UNSUPPORTED, () -> group.rejoin(0, 0));
        }
        MirrorGroup group = splitWithVolumes(2);
        group.makeVolume();
        int before = group.writes();
        for (int outside : OUTSIDE) {
            Check.dueThrow("7 volume", Check.INDEX, () -> group.rejoin(outside, 0));
            Check.dueThrow("7 side", Check.INDEX, () -> group.rejoin(0, outside));
        }
        Check.dueThrow("7 volume 3", Check.INDEX, () -> group.rejoin(3, 0));
        Check.dueThrow("7 side 2", Check.INDEX, () -> group.rejoin(0, 2));
        Check.dueThrow("7 joined", Check.UNSUPPORTED, () -> group.rejoin(2, 0));
        Check.due("7 what is refused writes nothing", group.writes(), before);
    }

    private static void promise8Step() {
        for (int winner = 0; winner < 2; winner++) {
            MirrorGroup group = rejoining(winner);
            int before = group.writes();
            Check.due("8 left", group.step(0), 1);
            Check.due("8 a block and a header", group.writes(), before + 3);
            Check.due("8 map 0", group.marked(0, 0), 0);
            Check.due("8 map 1", group.marked(0, 1), 4);
            Check.due("8 side 0 is the winner's", group.raw(0, 0, 0, 1), winner == 0 ? 11 : 0);
            Check.due("8 side 1 is the winner's", group.raw(0, 1, 0, 1), winner == 0 ? 11 : 0);
            Check.due("8 the state", group.state(0), 2 + winner);
            Check.due("8 none left", group.step(0), 0);
            Check.due("8 joined", group.state(0), 0);
            Check.due("8 side 0", group.raw(0, 0, 16, 1), winner == 0 ? 0 : 21);
            Check.due("8 all the same", group.differing(0), 0);
            Check.due("8 writes", group.writes(), before + 6);
            Check.dueThrow("8 joined", Check.UNSUPPORTED, () -> group.step(0));
        }
        MirrorGroup group = splitWithVolumes(2);
        group.fill(1, 0, 3, 0, 0, 0, 0);
        group.fill(1, 1, 4, 0, 0, 0, 0);
        Check.dueThrow("8 split", Check.UNSUPPORTED, () -> group.step(0));
        group.rejoin(0, 0);
        group.rejoin(1, 1);
        int before = group.writes();
        Check.due("8 no bit at all", group.step(0), 0);
        Check.due("8 no bit, a header", group.writes(), before + 2);
        Check.due("8 no bit, joined", group.state(0), 0);
        Check.due("8 a region of same blocks", group.step(1), 0);
        Check.due("8 same blocks are not written", group.writes(), before + 4);
        for (int outside : OUTSIDE) {
            Check.dueThrow("8 volume", Check.INDEX, () -> group.step(outside));
        }
        Check.dueThrow("8 volume 2", Check.INDEX, () -> group.step(2));
        stepWritesInOrder();
    }

    private static void stepWritesInOrder() {
        MirrorGroup group = splitWithVolumes(1);
        group.write(0, 0, 63, 0, 3);
        group.write(0, 1, 56, 0, 1);
        group.write(0, 0, 58, 3, 2);
        group.rejoin(0, 0);
        group.cutAfter(2);
        Check.dueThrow("8 cut", Check.STATE, () -> group.step(0));
        Check.due("8 the first block", group.raw(0, 1, 56, 0), 0);
        Check.due("8 the second block", group.raw(0, 1, 58, 3), 2);
        Check.due("8 not the third", group.raw(0, 1, 63, 0), 0);
        Check.due("8 start", group.start(), 1);
        Check.due("8 the bits stay", group.marked(0, 0) | group.marked(0, 1), 128);
        Check.due("8 again", group.step(0), 0);
        Check.due("8 the third", group.raw(0, 1, 63, 0), 3);
    }

    private static void promise9Run() {
        MirrorGroup group = splitWithVolumes(3);
        for (int region = 0; region < 8; region++) {
            group.write(0, region % 2, region * 8 + region, 0, region + 1);
        }
        group.rejoin(0, 1);
        int before = group.writes();
        Check.due("9 all regions", group.run(0), 8);
        Check.due("9 writes", group.writes(), before + 8 + 16);
        Check.due("9 joined", group.state(0), 0);
        Check.due("9 same", group.differing(0), 0);
        Check.due("9 the winner's", group.raw(0, 0, 63, 0), 8);
        Check.due("9 not the other's", group.raw(0, 1, 54, 0), 0);
        group.rejoin(1, 0);
        Check.due("9 no bit at all", group.run(1), 1);
        Check.due("9 joined", group.state(1), 0);
        Check.dueThrow("9 joined", Check.UNSUPPORTED, () -> group.run(0));
        Check.dueThrow("9 split", Check.UNSUPPORTED, () -> group.run(2));
        Check.dueThrow("9 volume 3", Check.INDEX, () -> group.run(3));
        for (int outside : OUTSIDE) {
            Check.dueThrow("9 volume", Check.INDEX, () -> group.run(outside));
        }
        MirrorGroup begun = rejoining(0);
        begun.step(0);
        Check.due("9 what is left", begun.run(0), 1);
    }

    private static void promise10State() {
        MirrorGroup group = withVolumes(1);
        Check.due("10 joined", group.state(0), 0);
        Check.due("10 none such", group.state(1), -1);
        for (int outside : OUTSIDE) {
            Check.due("10 none such", group.state(outside), -1);
        }
        group.split();
        Check.due("10 split", group.state(0), 1);
        group.rejoin(0, 0);
        Check.due("10 side 0 wins", group.state(0), 2);
        Check.due("10 side 1 wins", rejoining(1).state(0), 3);
        cutPower(group);
        Check.due("10 power is off", group.state(0), -1);
    }

    private static void promise11Marked() {
        MirrorGroup group = rejoining(0);
        Check.due("11 side 0", group.marked(0, 0), 1);
        Check.due("11 side 1", group.marked(0, 1), 4);
        Check.due("11 no such volume", group.marked(1, 0), -1);
        Check.due("11 no such side", group.marked(0, 2), -1);
        for (int outside : OUTSIDE) {
            Check.due("11 no such volume", group.marked(outside, 0), -1);
            Check.due("11 no such side", group.marked(0, outside), -1);
        }
        cutPower(group);
        Check.due("11 power is off", group.marked(0, 0), -1);
    }

    private static void promise12Windowed() {
        MirrorGroup group = withVolumes(6);
        Check.due("12 empty", group.windowed(0), -1);
        group.write(5, 0, 63, 0, 1);
        group.write(2, 0, 24, 0, 1);
        dueWindow("12 window", group, 47, 19, -1, -1);
        group.write(0, 0, 0, 0, 1);
        group.write(0, 0, 8, 0, 1);
        Check.due("12 no place 4", group.windowed(4), -1);
        for (int outside : OUTSIDE) {
            Check.due("12 no such place", group.windowed(outside), -1);
        }
        group.cutAfter(0);
        Check.dueThrow("12 cut", Check.STATE, () -> group.write(0, 0, 0, 0, 1));
        dueWindow("12 power is off", group, -1, -1, -1, -1);
    }

    private static void promise13Volumes() {
        MirrorGroup group = new MirrorGroup();
        for (int i = 0; i < 6; i++) {
            Check.due("13 volumes", group.volumes(), i);
            group.makeVolume();
        }
        Check.due("13 volumes", group.volumes(), 6);
        cutPower(group);
        Check.due("13 power is off", group.volumes(), -1);
    }

    private static void promise14Differing() {
        MirrorGroup group = splitWithVolumes(2);
        for (int word = 0; word < 4; word++) {
            group.write(0, word % 2, 20 * word, word, 1);
        }
        group.fill(0, 0, 63, 1, 2, 3, 4);
        group.fill(0, 1, 63, 1, 2, 3, 4);
        Check.due("14 differing", group.differing(0), 4);
        group.write(0, 1, 63, 3, 5);
        Check.due("14 the last block's last word", group.differing(0), 5);
        Check.due("14 the other volume", group.differing(1), 0);
        Check.due("14 a volume to come", group.differing(5), 0);
        Check.dueThrow("14 volume 6", Check.INDEX, () -> group.differing(6));
        for (int outside : OUTSIDE) {
            Check.dueThrow("14 volume", Check.INDEX, () -> group.differing(outside));
        }
        cutPower(group);
        Check.due("14 power is off", group.differing(0), 5);
        Check.dueThrow("14 power is off", Check.INDEX, () -> group.differing(6));
    }

    private static void promise15Raw() {
        MirrorGroup group = splitWithVolumes(1);
        group.fill(0, 1, 63, 1, 2, 3, 4);
        Check.due("15 side 1", group.raw(0, 1, 63, 3), 4);
        Check.due("15 side 0", group.raw(0, 0, 63, 3), 0);
        Check.due("15 a volume to come", group.raw(5, 1, 63, 3), 0);
        cutPower(group);
        Check.due("15 power is off", group.raw(0, 1, 63, 2), 3);
        for (int outside : OUTSIDE) {
            Check.dueThrow("15 volume", Check.INDEX, () -> group.raw(outside, 0, 0, 0));
            Check.dueThrow("15 side", Check.INDEX, () -> group.raw(0, outside, 0, 0));
            Check.dueThrow("15 block", Check.INDEX, () -> group.raw(0, 0, outside, 0));
            Check.dueThrow("15 word", Check.INDEX, () -> group.raw(0, 0, 0, outside));
        }
        Check.dueThrow("15 volume 6", Check.INDEX, () -> group.raw(6, 0, 0, 0));
        Check.dueThrow("15 side 2", Check.INDEX, () -> group.raw(0, 2, 0, 0));
        Check.dueThrow("15 block 64", Check.INDEX, () -> group.raw(0, 0, 64, 0));
        Check.dueThrow("15 word 4", Check.INDEX, () -> group.raw(0, 0, 0, 4));
    }

    private static void promise16Head() {
        MirrorGroup group = rejoining(1);
        group.makeVolume();
        group.write(1, 0, 40, 0, 1);
        group.write(0, 0, 8, 0, 1);
        group.cutAfter(1);
        Check.dueThrow("16 cut", Check.STATE, () -> group.makeVolume());
        int[] first = {9, 3, 3, 0, 0, -1, -1, -1, 1, 0, 0, -1, -1, -1, 4, 0, 0, -1, -1, -1,
            13, 1, -1, -1};
        int[] second = {8, 2, 3, 0, -1, -1, -1, -1, 1, 0, -1, -1, -1, -1, 4, 0, -1, -1, -1, -1,
            13, 1, -1, -1};
        for (int what = 0; what < 24; what++) {
            Check.due("16 side 0, " + what, group.head(0, what), first[what]);
            Check.due("16 side 1, " + what, group.head(1, what), second[what]);
        }
        Check.dueThrow("16 what 24", Check.INDEX, () -> group.head(0, 24));
        Check.dueThrow("16 side 2", Check.INDEX, () -> group.head(2, 0));
        for (int outside : OUTSIDE) {
            Check.dueThrow("16 side", Check.INDEX, () -> group.head(outside, 0));
            Check.dueThrow("16 what", Check.INDEX, () -> group.head(0, outside));
        }
    }

    private static void promise17Copied() {
        MirrorGroup group = splitWithVolumes(2);
        for (int region = 0; region < 4; region++) {
            group.write(0, 0, region * 8, 0, region == 2 ? 0 : 1);
        }
        group.rejoin(0, 0);
        group.rejoin(1, 0);
        group.step(1);
        Check.due("17 a step without a region", group.copied(), 0);
        group.step(0);
        Check.due("17 one", group.copied(), 1);
        group.cutAfter(2);
        Check.dueThrow("17 cut before the header is on side 1", Check.STATE, () -> group.step(0));
        Check.due("17 that step did not come to its end", group.copied(), 1);
        group.start();
        Check.due("17 since start", group.copied(), 0);
        Check.due("17 the rest", group.run(0), 2);
        Check.due("17 a region of same blocks counts", group.copied(), 2);
        group.start();
        Check.due("17 start while power is on", group.copied(), 0);

        MirrorGroup cut = rejoining(1);
        cut.cutAfter(5);
        Check.dueThrow("17 run is cut", Check.STATE, () -> cut.run(0));
        Check.due("17 the step before counts", cut.copied(), 1);
        cut.cutAfter(0);
        Check.dueThrow("17 start is cut", Check.STATE, () -> cut.start());
        Check.due("17 since a start that was cut", cut.copied(), 0);
    }

    private static void promise18Writes() {
        MirrorGroup group = withVolumes(1);
        Check.due("18 a header write is two", group.writes(), 2);
        group.cutAfter(3);
        Check.dueThrow("18 cut", Check.STATE, () -> group.write(0, 0, 0, 0, 1));
        Check.due("18 what failed does not count", group.writes(), 5);
        group.start();
        Check.due("18 a block and a header", group.writes(), 8);
        group.start();
        Check.due("18 nothing to do", group.writes(), 8);
    }

    private static void promise19Power() {
        MirrorGroup group = withVolumes(1);
        Check.due("19 on", group.power(), 1);
        group.cutAfter(0);
        Check.due("19 on until a write is wanted", group.power(), 1);
        group.read(0, 0, 0, 0);
        Check.due("19 reads do not want one", group.power(), 1);
        Check.dueThrow("19 cut", Check.STATE, () -> group.split());
        Check.due("19 off", group.power(), 0);
        group.start();
        Check.due("19 on again", group.power(), 1);
    }

    private static void promise20CutAfter() {
        MirrorGroup group = withVolumes(1);
        group.cutAfter(2);
        Check.dueThrow("20 below", Check.ARGUMENT, () -> group.cutAfter(-2));
        Check.dueThrow("20 above", Check.ARGUMENT, () -> group.cutAfter(1000001));
        Check.dueThrow("20 below", Check.ARGUMENT, () -> group.cutAfter(Integer.MIN_VALUE));
        Check.dueThrow("20 above", Check.ARGUMENT, () -> group.cutAfter(Integer.MAX_VALUE));
        Check.due("20 two more", group.makeVolume(), 1);
        Check.due("20 still on", group.power(), 1);
        Check.dueThrow("20 what was told counts", Check.STATE, () -> group.makeVolume());
        Check.dueThrow("20 refused while off too", Check.ARGUMENT, () -> group.cutAfter(-2));
        group.start();
        Check.due("20 not again", group.makeVolume(), 2);
        group.cutAfter(0);
        group.cutAfter(1000000);
        Check.due("20 the latest counts", group.makeVolume(), 3);
        group.cutAfter(0);
        group.cutAfter(-1);
        Check.due("20 none", group.makeVolume(), 4);
        group.cutAfter(1);
        Check.dueThrow("20 one more", Check.STATE, () -> group.makeVolume());
        group.cutAfter(0);
        Check.dueThrow("20 told while off", Check.STATE, () -> group.start());
        Check.due("20 off", group.power(), 0);
        Check.due("20 not again", group.start(), 6);
    }

    private static void promise21Start() {
        MirrorGroup group = new MirrorGroup();
        Check.due("21 nothing there", group.start(), 0);
        Check.due("21 nothing written", group.writes(), 0);
        group.cutAfter(0);
        Check.dueThrow("21 cut", Check.STATE, () -> group.makeVolume());
        Check.due("21 no header was written", group.start(), 0);
        Check.due("21 nothing written", group.writes(), 0);
        group.cutAfter(1);
        Check.dueThrow("21 cut", Check.STATE, () -> group.makeVolume());
        Check.due("21 side 0's header is newer", group.start(), 1);
        Check.due("21 it is written on side 1", group.writes(), 2);
        Check.due("21 with its own number", group.head(1, 0), 1);
        Check.due("21 the next number", group.makeVolume(), 1);
        Check.due("21 the next number", group.head(0, 0), 2);

        group.split();
        group.write(0, 0, 0, 0, 1);
        int before = group.writes();
        Check.due("21 while power is on", group.start(), 2);
        Check.due("21 a split one is left alone", group.differing(0), 1);
        Check.due("21 an empty window, no write", group.writes(), before);
        group.cutAfter(0);
        Check.due("21 no write is wanted", group.start(), 2);
        Check.due("21 it is still to fail", group.power(), 1);
        Check.dueThrow("21 it is still to fail", Check.STATE, () -> group.makeVolume());
    }

    private static void promise21StartMendsTheWindow() {
        MirrorGroup group = withVolumes(1);
        group.write(0, 0, 0, 0, 1);
        int before = group.writes();
        Check.due("21 while power is on", group.start(), 1);
        Check.due("21 the window is emptied", group.windowed(0), -1);
        Check.due("21 with one header write", group.writes(), before + 2);
        group.cutAfter(3);
        Check.dueThrow("21 cut", Check.STATE, () -> group.write(0, 0, 1, 0, 9));
        group.cutAfter(0);
        Check.dueThrow("21 cut before the block", Check.STATE, () -> group.start());
        Check.due("21 not mended", group.differing(0), 1);
        group.cutAfter(1);
        Check.dueThrow("21 cut behind the block", Check.STATE, () -> group.start());
        Check.due("21 mended from side 0", group.raw(0, 1, 1, 0), 9);
        Check.due("21 the window stands", group.head(0, 20), 0);
        group.cutAfter(1);
        Check.dueThrow("21 cut between both headers", Check.STATE, () -> group.start());
        Check.due("21 side 0 is emptied", group.head(0, 20), -1);
        Check.due("21 side 1 is not", group.head(1, 20), 0);
        before = group.writes();
        Check.due("21 at last", group.start(), 1);
        Check.due("21 one header", group.writes(), before + 1);
        for (int winner = 0; winner < 2; winner++) {
            MirrorGroup mixed = rejoining(winner);
            mixed.cutAfter(3);
            Check.dueThrow("21 cut", Check.STATE, () -> mixed.write(0, 0, 63, 3, 8));
            Check.due("21 start", mixed.start(), 1);
            Check.due("21 mended from the winner", mixed.read(0, 0, 63, 3), 8);
            Check.due("21 marked regions are left alone", mixed.differing(0), 2);
        }
    }

    private static void powerOffComesFirst() {
        MirrorGroup group = withVolumes(6);
        group.cutAfter(0);
        Check.dueThrow("off", Check.STATE, () -> group.split());
        Check.dueThrow("off, makeVolume", Check.STATE, () -> group.makeVolume());
        Check.dueThrow("off, write", Check.STATE, () -> group.write(9, 9, 99, 9, 9));
        Check.dueThrow("off, fill", Check.STATE, () -> group.fill(9, 9, 99, 9, 9, 9, 9));
        Check.dueThrow("off, read", Check.STATE, () -> group.read(9, 9, 99, 9));
        Check.dueThrow("off, split", Check.STATE, () -> group.split());
        Check.dueThrow("off, rejoin", Check.STATE, () -> group.rejoin(0, 0));
        Check.dueThrow("off, rejoin", Check.STATE, () -> group.rejoin(9, 9));
        Check.dueThrow("off, step", Check.STATE, () -> group.step(0));
        Check.dueThrow("off, step", Check.STATE, () -> group.step(9));
        Check.dueThrow("off, run", Check.STATE, () -> group.run(0));
        Check.dueThrow("off, run", Check.STATE, () -> group.run(9));
        Check.due("off, nothing is written", group.writes(), 12);
        Check.due("start alone goes on", group.start(), 6);
        Check.due("the split was not done", group.state(0), 0);
    }
}

import java.util.List;
import java.util.function.Consumer;

/** Promises 17 to 21: copied, writes, power, cutAfter, start. */
final class PowerSentences {
    private static final String COPIED = "How many regions were copied by steps that came to their "
            + "end,";
    private static final String SINCE = "since the latest start() (or from the beginning).";
    private static final String FAILS = "Power fails when n more writes are done and another one is "
            + "wanted;";
    private static final String PLACE = "Takes the place of what was told before;";
    private static final String NOT_AGAIN = "when it has failed, it is not to fail again.";
    private static final String ARGUMENT = "IllegalArgumentException when n is below -1, or above "
            + "1000000.";
    private static final String GOES_ON = "Goes on (also when power is on): how many volumes there "
            + "are.";
    private static final String MEANWHILE = "IllegalStateException when power fails meanwhile.";

    private PowerSentences() {
    }

    static List<Sentence> all() {
        return List.of(
            new Sentence("Promise 17", COPIED, PowerSentences::promise17NoneToEight),
            new Sentence("Promise 17", COPIED, PowerSentences::promise17StepWithoutARegion),
            new Sentence("Promise 17", COPIED, PowerSentences::promise17RegionOfSameBlocks),
            new Sentence("Promise 17", COPIED, PowerSentences::promise17StepsThatAreCut),
            new Sentence("Promise 17", COPIED, PowerSentences::promise17RunThatIsCut),
            new Sentence("Promise 17", SINCE, PowerSentences::promise17SinceStart),
            new Sentence("Promise 17", SINCE, PowerSentences::promise17SinceAStartThatWasCut),
            new Sentence("Promise 17", SINCE, PowerSentences::promise17WhatStartMendsIsNone),
            new Sentence("Promise 18", "How many writes were done.",
                PowerSentences::promise18EachCall),
            new Sentence("Promise 18", "How many writes were done.",
                PowerSentences::promise18WhatFailsIsNotDone),
            new Sentence("Promise 18", "How many writes were done.",
                PowerSentences::promise18StartGoesOnCounting),
            new Sentence("Promise 19", "1 when power is on, else 0.",
                PowerSentences::promise19OnAndOff),
            new Sentence("Promise 20", FAILS, PowerSentences::promise20NoneMore),
            new Sentence("Promise 20", FAILS, PowerSentences::promise20AllWantedAreDone),
            new Sentence("Promise 20", FAILS, PowerSentences::promise20OverSeveralCalls),
            new Sentence("Promise 20", FAILS, PowerSentences::promise20ToldWhileOff),
            new Sentence("Promise 20", "NONE: it is not to fail.", PowerSentences::promise20None),
            new Sentence("Promise 20", PLACE, PowerSentences::promise20MoreAndLess),
            new Sentence("Promise 20", NOT_AGAIN, PowerSentences::promise20NotAgain),
            new Sentence("Promise 20", ARGUMENT, PowerSentences::promise20Smallest),
            new Sentence("Promise 20", ARGUMENT, PowerSentences::promise20Greatest),
            new Sentence("Promise 20", ARGUMENT, PowerSentences::promise20RefusedLeavesWhatWasTold),
            new Sentence("Promise 20", ARGUMENT, PowerSentences::promise20RefusedWhileOff),
            new Sentence("Promise 21", GOES_ON, PowerSentences::promise21NoneToSixVolumes),
            new Sentence("Promise 21", GOES_ON, PowerSentences::promise21WhenPowerIsOn),
            new Sentence("Promise 21", GOES_ON, PowerSentences::promise21LeavesTheCutAsTold),
            new Sentence("Promise 21", MEANWHILE, PowerSentences::promise21CutAtEachWrite),
            new Sentence("Promise 21", MEANWHILE, PowerSentences::promise21CutWhenPowerIsOn),
            new Sentence("Promise 21", MEANWHILE, PowerSentences::promise21CutAgainAndAgain));
    }

    /** Region 0 has three blocks that differ. */
    private static Consumer<MirrorGroup> threeBlocks() {
        return Scenes.split(1).andThen(group -> {
            for (int block = 0; block < 3; block++) {
                group.write(0, 0, block, 0, 1);
            }
            group.rejoin(0, 0);
        });
    }

    private static void promise17NoneToEight() {
        MirrorGroup group = Scenes.after(Scenes.split(2));
        for (int region = 0; region < 8; region++) {
            group.write(0, 0, 8 * region, 0, 1);
            group.write(1, 1, 8 * region, 0, 1);
        }
        group.rejoin(0, 0);
        group.rejoin(1, 0);
        Check.due("none", group.copied(), 0);
        for (int steps = 1; steps <= 8; steps++) {
            group.step(0);
            Check.due("steps", group.copied(), steps);
        }
        group.run(1);
        Check.due("of all volumes", group.copied(), 16);
    }

    private static void promise17StepWithoutARegion() {
        MirrorGroup group = Scenes.after(Scenes.split(2));
        group.rejoin(0, 0);
        group.rejoin(1, 1);
        group.step(0);
        Check.due("step", group.copied(), 0);
        group.run(1);
        Check.due("run", group.copied(), 0);
    }

    private static void promise17RegionOfSameBlocks() {
        MirrorGroup group = Scenes.after(Scenes.split(1));
        group.write(0, 0, 0, 0, 0);
        group.write(0, 1, 63, 0, 0);
        group.rejoin(0, 0);
        Check.due("nothing differs", group.differing(0), 0);
        group.step(0);
        Check.due("one", group.copied(), 1);
        group.step(0);
        Check.due("two", group.copied(), 2);
    }

    private static void promise17StepsThatAreCut() {
        for (int writes = 0; writes < 5; writes++) {
            MirrorGroup group = Scenes.after(threeBlocks());
            Scenes.cut(writes, other -> other.step(0)).accept(group);
            Check.due("cut after " + writes, group.copied(), 0);
        }
        MirrorGroup group = Scenes.after(threeBlocks());
        group.cutAfter(5);
        group.step(0);
        Check.due("not cut", group.copied(), 1);
    }

    private static void promise17RunThatIsCut() {
        for (int writes = 0; writes < 6; writes++) {
            MirrorGroup group = Scenes.after(Scenes.rejoining(1));
            Scenes.cut(writes, other -> other.run(0)).accept(group);
            Check.due("cut after " + writes, group.copied(), writes < 3 ? 0 : 1);
        }
        MirrorGroup group = Scenes.after(Scenes.rejoining(1));
        group.cutAfter(6);
        group.run(0);
        Check.due("not cut", group.copied(), 2);
    }

    private static void promise17SinceStart() {
        MirrorGroup group = Scenes.after(Scenes.rejoining(0));
        group.step(0);
        Scenes.cut(1, other -> other.step(0)).accept(group);
        Check.due("off", group.copied(), 1);
        group.start();
        Check.due("since start()", group.copied(), 0);
        group.step(0);
        Check.due("since start()", group.copied(), 1);
        group.start();
        Check.due("a start() while power is on", group.copied(), 0);
    }

    private static void promise17SinceAStartThatWasCut() {
        MirrorGroup group = Scenes.after(Scenes.rejoining(0));
        group.step(0);
        Scenes.cut(2, other -> other.step(0)).accept(group);
        Check.due("before it", group.copied(), 1);
        Scenes.cut(0, MirrorGroup::start).accept(group);
        // It is the latest start() though power failed in it.
        Check.due("since it", group.copied(), 0);
    }

    private static void promise17WhatStartMendsIsNone() {
        MirrorGroup group = Scenes.after(
            Scenes.joined(1).andThen(Scenes.cut(3, other -> other.write(0, 0, 0, 0, 1))));
        group.start();
        Check.due("mended", group.differing(0), 0);
        Check.due("copied", group.copied(), 0);
    }

    private static void promise18EachCall() {
        MirrorGroup group = new MirrorGroup();
        Check.due("none", group.writes(), 0);
        group.makeVolume();
        Check.due("makeVolume", group.writes(), 2);
        group.write(0, 0, 0, 0, 1);
        Check.due("write, a header and a block", group.writes(), 6);
        group.fill(0, 0, 0, 1, 2, 3, 4);
        Check.due("fill, a block", group.writes(), 8);
        group.read(0, 0, 0, 0);
        Check.due("read", group.writes(), 8);
        group.split();
        Check.due("split", group.writes(), 10);
        group.write(0, 1, 0, 0, 7);
        Check.due("write, split", group.writes(), 13);
        group.rejoin(0, 1);
        Check.due("rejoin", group.writes(), 15);
        group.step(0);
        Check.due("step", group.writes(), 18);
        group.write(0, 0, 8, 0, 1);
        Check.due("write", group.writes(), 22);
        group.start();
        Check.due("start", group.writes(), 24);
    }

    private static void promise18WhatFailsIsNotDone() {
        for (int writes = 0; writes < 4; writes++) {
            MirrorGroup group = Scenes.after(Scenes.joined(1));
            Scenes.cut(writes, other -> other.write(0, 0, 0, 0, 1)).accept(group);
            Check.due("cut after " + writes, group.writes(), 2 + writes);
            Check.dueThrow("off", Check.STATE, () -> group.write(0, 0, 0, 0, 1));
            Check.due("off", group.writes(), 2 + writes);
        }
    }

    private static void promise18StartGoesOnCounting() {
        MirrorGroup group = Scenes.after(
            Scenes.joined(1).andThen(Scenes.cut(3, other -> other.write(0, 0, 0, 0, 1))));
        group.start();
        Check.due("a block and a header", group.writes(), 5 + 3);
        group.start();
        Check.due("nothing to do", group.writes(), 8);
    }

    private static void promise19OnAndOff() {
        MirrorGroup group = Scenes.after(Scenes.joined(1));
        Check.due("on", group.power(), 1);
        group.cutAfter(0);
        Check.due("on until a write is wanted", group.power(), 1);
        Check.dueThrow("a write is wanted", Check.STATE, () -> group.split());
        Check.due("off", group.power(), 0);
        Check.dueThrow("off", Check.STATE, () -> group.split());
        Check.due("off still", group.power(), 0);
        group.start();
        Check.due("on again", group.power(), 1);
    }

    private static void promise20NoneMore() {
        MirrorGroup group = Scenes.after(Scenes.joined(1));
        group.cutAfter(0);
        Check.due("calls that want none", group.read(0, 0, 0, 0), 0);
        Check.due("calls that want none", group.start(), 1);
        Check.due("on", group.power(), 1);
        Check.dueThrow("one is wanted", Check.STATE, () -> group.makeVolume());
        Check.due("none was done", group.writes(), 2);
    }

    private static void promise20AllWantedAreDone() {
        MirrorGroup group = Scenes.after(Scenes.joined(1));
        group.cutAfter(4);
        group.write(0, 0, 0, 0, 5);
        Check.due("on", group.power(), 1);
        Check.due("read", group.read(0, 0, 0, 0), 5);
        Check.dueThrow("one more is wanted", Check.STATE, () -> group.write(0, 0, 0, 0, 6));
        Check.due("not done", group.raw(0, 0, 0, 0), 5);
    }

    private static void promise20OverSeveralCalls() {
        MirrorGroup group = Scenes.after(Scenes.joined(1));
        group.cutAfter(9);
        group.write(0, 0, 0, 0, 5);
        group.write(0, 0, 0, 0, 6);
        group.split();
        Check.due("eight done", group.writes(), 2 + 8);
        Check.dueThrow("one done, one not", Check.STATE, () -> group.write(0, 0, 0, 0, 7));
        Check.due("nine done", group.writes(), 2 + 9);
        Check.due("side 0's header", group.head(0, 8), 1);
        Check.due("not side 1's", group.head(1, 8), 0);
    }

    private static void promise20ToldWhileOff() {
        MirrorGroup group = Scenes.after(
            Scenes.joined(1).andThen(Scenes.cut(1, other -> other.makeVolume())));
        group.cutAfter(0);
        Check.dueThrow("start", Check.STATE, () -> group.start());
        Check.due("off", group.power(), 0);
        group.cutAfter(1);
        Check.due("start", group.start(), 2);
        Check.due("on", group.power(), 1);
        Check.dueThrow("it is still told", Check.STATE, () -> group.makeVolume());
    }

    private static void promise20None() {
        MirrorGroup group = Scenes.after(Scenes.joined(1));
        group.cutAfter(0);
        group.cutAfter(MirrorGroup.NONE);
        for (int i = 1; i < 6; i++) {
            Check.due("makeVolume", group.makeVolume(), i);
        }
        group.cutAfter(MirrorGroup.NONE);
        Check.due("split", group.split(), 6);
        Check.due("on", group.power(), 1);
    }

    private static void promise20MoreAndLess() {
        MirrorGroup more = Scenes.after(Scenes.joined(1));
        more.cutAfter(0);
        more.cutAfter(2);
        Check.due("more", more.makeVolume(), 1);
        Check.dueThrow("more", Check.STATE, () -> more.makeVolume());
        MirrorGroup less = Scenes.after(Scenes.joined(1));
        less.cutAfter(100);
        less.makeVolume();
        less.cutAfter(1);
        Check.dueThrow("less", Check.STATE, () -> less.makeVolume());
        Check.due("less", less.writes(), 2 + 2 + 1);
        MirrorGroup behind = Scenes.after(Scenes.joined(1));
        behind.cutAfter(3);
        behind.makeVolume();
        behind.cutAfter(3);
        Check.due("counted from here", behind.makeVolume(), 2);
        Check.dueThrow("counted from here", Check.STATE, () -> behind.makeVolume());
        Check.due("counted from here", behind.writes(), 4 + 3);
    }

    private static void promise20NotAgain() {
        for (int n = 0; n < 2; n++) {
            MirrorGroup group = Scenes.after(Scenes.joined(1));
            Scenes.cut(n, MirrorGroup::makeVolume).accept(group);
            group.start();
            for (int i = 1 + n; i < 6; i++) {
                Check.due("makeVolume", group.makeVolume(), i);
            }
            Check.due("on", group.power(), 1);
        }
    }

    private static void promise20Smallest() {
        MirrorGroup group = new MirrorGroup();
        Check.dueThrow("-1", Check.NOTHING, () -> group.cutAfter(-1));
        Check.dueThrow("0", Check.NOTHING, () -> group.cutAfter(0));
        Check.dueThrow("-2", Check.ARGUMENT, () -> group.cutAfter(-2));
        Check.dueThrow("smallest", Check.ARGUMENT, () -> group.cutAfter(Integer.MIN_VALUE));
    }

    private static void promise20Greatest() {
        MirrorGroup group = new MirrorGroup();
        Check.dueThrow("1000000", Check.NOTHING, () -> group.cutAfter(1000000));
        Check.dueThrow("1000001", Check.ARGUMENT, () -> group.cutAfter(1000001));
        Check.dueThrow("greatest", Check.ARGUMENT, () -> group.cutAfter(Integer.MAX_VALUE));
        Check.due("1000000 are enough", group.makeVolume(), 0);
    }

    private static void promise20RefusedLeavesWhatWasTold() {
        for (int n : new int[] {-2, 1000001, Integer.MIN_VALUE, Integer.MAX_VALUE}) {
            MirrorGroup told = Scenes.after(Scenes.joined(1));
            told.cutAfter(2);
            Check.dueThrow("refused", Check.ARGUMENT, () -> told.cutAfter(n));
            Check.due("two more", told.makeVolume(), 1);
            Check.dueThrow("then it fails", Check.STATE, () -> told.makeVolume());
            MirrorGroup none = Scenes.after(Scenes.joined(1));
            Check.dueThrow("refused", Check.ARGUMENT, () -> none.cutAfter(n));
            Check.due("not to fail", none.makeVolume(), 1);
        }
    }

    private static void promise20RefusedWhileOff() {
        MirrorGroup group = Scenes.after(Scenes.off(Scenes.joined(1)));
        for (int n : new int[] {-2, 1000001, Integer.MIN_VALUE, Integer.MAX_VALUE}) {
            Check.dueThrow("refused", Check.ARGUMENT, () -> group.cutAfter(n));
        }
        Check.dueThrow("taken", Check.NOTHING, () -> group.cutAfter(1000000));
        Check.due("off still", group.power(), 0);
    }

    private static void promise21NoneToSixVolumes() {
        for (int count = 0; count <= 6; count++) {
            MirrorGroup group = Scenes.after(Scenes.off(Scenes.joined(count)));
            Check.due("off", group.start(), count);
            Check.due("on", group.start(), count);
        }
    }

    private static void promise21WhenPowerIsOn() {
        Writes.none().areDoneBy(Scenes.rejoining(1), group -> group.start());
        Writes.none().areDoneBy(Scenes.oneOfEachState(), group -> group.start());
        Consumer<MirrorGroup> scene =
            Scenes.rejoining(1).andThen(group -> group.write(0, 0, 8, 0, 1));
        Writes.header(Picture.row(7, "3,1,4"))
            .areDoneBy(scene, group -> Check.due("volumes", group.start(), 1));
    }

    private static void promise21LeavesTheCutAsTold() {
        MirrorGroup group = Scenes.after(Scenes.fullWindow(1));
        group.cutAfter(3);
        Check.due("two of three", group.start(), 1);
        Check.dueThrow("one of two", Check.STATE, () -> group.split());
        Check.due("on side 0 alone", group.head(0, 2), 1);
        Check.due("on side 0 alone", group.head(1, 2), 0);
    }

    /** In a rejoining volume too, where the winner's side comes first. */
    private static void promise21CutAtEachWrite() {
        Consumer<MirrorGroup> joined = Scenes.fullWindow(2)
            .andThen(Scenes.cut(3, group -> group.fill(1, 0, 63, 1, 2, 3, 4)));
        Writes.block(1, 1, 63, 1, 2, 3, 4)
            .thenHeader(Picture.row(8, "0,0,0 0,0,0"))
            .areDoneBy(joined, group -> group.start());
        Consumer<MirrorGroup> rejoining = Scenes.rejoining(1)
            .andThen(Scenes.cut(3, group -> group.fill(0, 0, 63, 1, 2, 3, 4)));
        Writes.block(0, 0, 63, 1, 2, 3, 4)
            .thenHeader(Picture.row(7, "3,1,4"))
            .areDoneBy(rejoining, group -> group.start());
    }

    private static void promise21CutWhenPowerIsOn() {
        MirrorGroup group = Scenes.after(Scenes.fullWindow(1));
        group.cutAfter(1);
        Check.dueThrow("start", Check.STATE, () -> group.start());
        Check.due("off", group.power(), 0);
        Check.due("side 0's is written", group.head(0, 20), -1);
        Check.due("side 1's is not", group.head(1, 20), 0);
        Check.due("then it goes on", group.start(), 1);
        Check.due("side 1's is written", group.head(1, 20), -1);
    }

    private static void promise21CutAgainAndAgain() {
        MirrorGroup group = Scenes.after(
            Scenes.joined(1).andThen(Scenes.cut(3, other -> other.write(0, 0, 0, 0, 4))));
        for (int i = 0; i < 3; i++) {
            Scenes.cut(0, MirrorGroup::start).accept(group);
            Check.due("not mended", group.differing(0), 1);
        }
        Scenes.cut(1, MirrorGroup::start).accept(group);
        Check.due("mended", group.differing(0), 0);
        Check.due("the window stands", group.head(0, 20), 0);
        Scenes.cut(1, MirrorGroup::start).accept(group);
        Check.due("the window is empty on side 0", group.head(0, 20), -1);
        Check.due("not on side 1", group.head(1, 20), 0);
        int before = group.writes();
        Check.due("start", group.start(), 1);
        Check.due("side 1's header alone", group.writes(), before + 1);
    }
}

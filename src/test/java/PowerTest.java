import java.util.ArrayList;
import java.util.List;
import java.util.function.Consumer;

/** Power fails behind each write of a call, and then behind each write of the start() after it. */
public final class PowerTest {
    private static final int MORE_THAN_ANY_CALL_WRITES = 200;

    private record Scene(String name, Consumer<MirrorGroup> before, Consumer<MirrorGroup> call) {
    }

    public static void main(String[] args) {
        for (Scene scene : scenes()) {
            cutEverywhere(scene);
        }
        Check.finish("PowerTest");
    }

    private static List<Scene> scenes() {
        List<Scene> scenes = new ArrayList<>();
        scenes.add(new Scene("makeVolume", PowerTest::joined, g -> g.makeVolume()));
        scenes.add(new Scene("write, new region", PowerTest::joined, g -> g.write(0, 0, 40, 0, 9)));
        scenes.add(new Scene("write, old region", PowerTest::joined, g -> g.write(1, 0, 25, 0, 9)));
        scenes.add(new Scene("split", PowerTest::joined, g -> g.split()));
        scenes.add(new Scene("write, split", PowerTest::split, g -> g.write(0, 1, 40, 0, 9)));
        scenes.add(new Scene("fill, split", PowerTest::split, g -> g.fill(0, 0, 3, 9, 9, 9, 9)));
        for (int winner = 0; winner < 2; winner++) {
            int w = winner;
            Consumer<MirrorGroup> before = g -> rejoining(g, w);
            scenes.add(new Scene("rejoin " + w, PowerTest::split, g -> g.rejoin(0, w)));
            scenes.add(new Scene("write, marked " + w, before, g -> g.write(0, 0, 3, 0, 9)));
            scenes.add(new Scene("write, unmarked " + w, before, g -> g.write(0, 0, 50, 0, 9)));
            scenes.add(new Scene("step " + w, before, g -> g.step(0)));
            scenes.add(new Scene("run " + w, before, g -> g.run(0)));
            scenes.add(new Scene("split beside it " + w, before, g -> g.split()));
        }
        return scenes;
    }

    private static void joined(MirrorGroup group) {
        group.makeVolume();
        group.makeVolume();
        for (int region = 0; region < 3; region++) {
            group.fill(0, 0, 8 * region + 1, 1, 2, 3, region);
            group.fill(1, 0, 8 * region + 9, 4, 5, 6, region);
        }
    }

    private static void split(MirrorGroup group) {
        joined(group);
        group.split();
        group.fill(0, 0, 0, 1, 1, 1, 1);
        group.fill(0, 0, 7, 2, 2, 2, 2);
        group.fill(0, 1, 3, 3, 3, 3, 3);
        group.fill(0, 1, 63, 4, 4, 4, 4);
        group.makeVolume();
        group.write(2, 0, 0, 0, 7);
    }

    private static void rejoining(MirrorGroup group, int winner) {
        split(group);
        group.rejoin(0, winner);
        group.write(0, 0, 20, 0, 5);
    }

    private static void cutEverywhere(Scene scene) {
        boolean failed = true;
        int writes = 0;
        while (failed && writes < MORE_THAN_ANY_CALL_WRITES) {
            failed = cutOnce(scene, writes);
            writes++;
        }
        Check.due(scene.name() + " comes to its end", failed ? 1 : 0, 0);
    }

    /** Whether power failed in the call. */
    private static boolean cutOnce(Scene scene, int writes) {
        String what = scene.name() + ", cut after " + writes;
        MirrorGroup group = cutGroup(scene, writes);
        if (group.power() == 1) {
            return false;
        }
        dueOff(what, group);
        int startWrites = 0;
        boolean failed = true;
        while (failed && startWrites < MORE_THAN_ANY_CALL_WRITES) {
            MirrorGroup again = cutGroup(scene, writes);
            again.cutAfter(startWrites);
            int before = again.writes();
            failed = !Check.thrownBy(() -> again.start()).equals(Check.NOTHING);
            if (failed) {
                Check.due(what + ", off in start()", again.power(), 0);
                Check.due(what + ", writes of start()", again.writes(), before + startWrites);
                again.start();
            }
            again.cutAfter(MirrorGroup.NONE);
            dueSound(what + ", start cut after " + startWrites, again);
            startWrites++;
        }
        Check.due(what + ", start() comes to its end", failed ? 1 : 0, 0);
        return true;
    }

    private static MirrorGroup cutGroup(Scene scene, int writes) {
        MirrorGroup group = new MirrorGroup();
        scene.before().accept(group);
        int before = group.writes();
        group.cutAfter(writes);
        String thrown = Check.thrownBy(() -> scene.call().accept(group));
        if (group.power() == 0) {
            Check.dueText(scene.name(), thrown, Check.STATE);
            Check.due(scene.name() + ", writes", group.writes(), before + writes);
        } else {
            Check.dueText(scene.name(), thrown, Check.NOTHING);
        }
        return group;
    }

    private static void dueOff(String what, MirrorGroup group) {
        Check.due(what + ", volumes", group.volumes(), -1);
        Check.due(what + ", state", group.state(0), -1);
        Check.due(what + ", marked", group.marked(0, 0), -1);
        Check.due(what + ", windowed", group.windowed(0), -1);
        Check.dueThrow(what + ", read", Check.STATE, () -> group.read(0, 0, 0, 0));
    }

    /** Joined volumes are the same on both sides, others differ in marked regions alone. */
    private static void dueSound(String what, MirrorGroup group) {
        Check.due(what + ", power", group.power(), 1);
        for (int item = 0; item < 24; item++) {
            Check.due(what + ", header item " + item, group.head(0, item), group.head(1, item));
        }
        Check.due(what + ", window", group.windowed(0), -1);
        for (int volume = 0; volume < group.volumes(); volume++) {
            int marks = group.marked(volume, 0) | group.marked(volume, 1);
            if (group.state(volume) == 0) {
                Check.due(what + ", joined with marks", marks, 0);
            }
            if (marks == 0) {
                Check.due(what + ", differing", group.differing(volume), 0);
            }
            if (group.state(volume) == 0 || group.state(volume) > 1) {
                dueUsable(what, group, volume);
            }
        }
    }

    private static void dueUsable(String what, MirrorGroup group, int volume) {
        int first = group.read(volume, 0, 0, 0);
        if (group.state(volume) > 1) {
            group.run(volume);
        }
        Check.due(what + ", joined at last", group.state(volume), 0);
        Check.due(what + ", same at last", group.differing(volume), 0);
        Check.due(what + ", the winner stays", group.read(volume, 0, 0, 0), first);
    }
}

import java.util.ArrayList;
import java.util.List;
import java.util.function.Consumer;

/** The writes that a call is to do, in their order; power is cut behind each of them in turn. */
final class Writes {
    private final List<Consumer<Picture>> writes = new ArrayList<>();

    static Writes none() {
        return new Writes();
    }

    /** A header write: on side 0, then on side 1. */
    static Writes header(int[] row) {
        return none().thenHeader(row);
    }

    static Writes headerOn(int side, int[] row) {
        Writes due = none();
        due.writes.add(picture -> picture.setHeader(side, row));
        return due;
    }

    static Writes block(int volume, int side, int block, int... words) {
        return none().thenBlock(volume, side, block, words);
    }

    Writes thenHeader(int[] row) {
        writes.add(picture -> picture.setHeader(0, row));
        writes.add(picture -> picture.setHeader(1, row));
        return this;
    }

    Writes thenBlock(int volume, int side, int block, int... words) {
        writes.add(picture -> picture.setBlock(volume, side, block, words));
        return this;
    }

    /** What stands on both sides is as due when power fails at each of the call's writes. */
    void areDoneBy(Consumer<MirrorGroup> before, Consumer<MirrorGroup> call) {
        Picture due = Picture.of(() -> made(before));
        for (int done = 0; done < writes.size(); done++) {
            due.setAtHand(false);
            dueCut(before, call, done, due);
            writes.get(done).accept(due);
        }
        due.setAtHand(true);
        dueDone(before, call, writes.size(), due);
        dueDone(before, call, MirrorGroup.NONE, due);
    }

    private static void dueCut(Consumer<MirrorGroup> before, Consumer<MirrorGroup> call, int done,
            Picture due) {
        String what = "cut after " + done;
        MirrorGroup group = made(before);
        int writesBefore = group.writes();
        group.cutAfter(done);
        Check.dueThrow(what, Check.STATE, () -> call.accept(group));
        Check.due(what + ", power", group.power(), 0);
        Check.due(what + ", writes", group.writes(), writesBefore + done);
        Picture.dueSame(what, Picture.of(() -> called(before, call, done)), due);
    }

    /** As many writes as there are may be done, or any number: power stays on. */
    private void dueDone(Consumer<MirrorGroup> before, Consumer<MirrorGroup> call, int cut,
            Picture due) {
        String what = cut == MirrorGroup.NONE ? "not cut" : "cut behind its last write";
        MirrorGroup group = made(before);
        int writesBefore = group.writes();
        group.cutAfter(cut);
        Check.dueThrow(what, Check.NOTHING, () -> call.accept(group));
        Check.due(what + ", power", group.power(), 1);
        Check.due(what + ", writes", group.writes(), writesBefore + writes.size());
        Picture.dueSame(what, Picture.of(() -> called(before, call, cut)), due);
    }

    /** The call throws, power is on, and nothing at all has changed. */
    static void dueRefused(String what, String exception, Consumer<MirrorGroup> before,
            Consumer<MirrorGroup> call) {
        MirrorGroup group = made(before);
        int writesBefore = group.writes();
        // If the call wanted a write, that would fail.
        group.cutAfter(0);
        Check.dueThrow(what, exception, () -> call.accept(group));
        Check.due(what + ", power", group.power(), 1);
        Check.due(what + ", writes", group.writes(), writesBefore);
        Picture due = Picture.of(() -> made(before));
        Picture.dueSame(what, Picture.of(() -> called(before, call, 0)), due);
    }

    private static MirrorGroup made(Consumer<MirrorGroup> before) {
        MirrorGroup group = new MirrorGroup();
        before.accept(group);
        return group;
    }

    private static MirrorGroup called(Consumer<MirrorGroup> before, Consumer<MirrorGroup> call,
            int cut) {
        MirrorGroup group = made(before);
        group.cutAfter(cut);
        Check.thrownBy(() -> call.accept(group));
        return group;
    }
}

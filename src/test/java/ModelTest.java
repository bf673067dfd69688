import java.util.Random;

/** Runs of mixed calls: the class must answer each as the plain model does. */
public final class ModelTest {
    private static final int RUNS = 1500;
    /** What the document promises of one object. */
    private static final int CALLS = 512;

    private final Random dice;
    private final MirrorGroup group = new MirrorGroup();
    private final PlainModel model = new PlainModel();
    private final int run;
    private final StringBuilder told = new StringBuilder();

    private ModelTest(int run) {
        this.run = run;
        dice = new Random(run);
    }

    public static void main(String[] args) {
        for (int run = 1; run <= RUNS && Check.wrongSoFar() == 0; run++) {
            new ModelTest(run).play();
        }
        Check.finish("ModelTest");
    }

    private void play() {
        // Few volumes and blocks meet one another more often than many do.
        int volumes = 1 + dice.nextInt(6);
        int regions = 1 + dice.nextInt(8);
        int dare = dice.nextInt(3);
        for (int call = 1; call <= CALLS && Check.wrongSoFar() == 0; call++) {
            oneCall(volumes, regions, dare);
        }
        if (Check.wrongSoFar() != 0) {
            System.out.println("run " + run + ":" + told);
        }
    }

    private interface Ask {
        int answer();
    }

    private static String outcome(Ask ask) {
        try {
            return String.valueOf(ask.answer());
        } catch (RuntimeException e) {
            return "throws." + e.getClass().getSimpleName();
        }
    }

    private void same(String call, Ask ofGroup, Ask ofModel) {
        told.append('\n').append(call);
        String got = outcome(ofGroup);
        String want = outcome(ofModel);
        told.append(" = ").append(got);
        Check.dueText("run " + run + ", " + call, got, want);
    }

    /** A number from 0 to count - 1 as a rule, now and then one outside. */
    private int pick(int count) {
        int odd = dice.nextInt(40);
        return odd == 0 ? count : odd == 1 ? -1 : dice.nextInt(count);
    }

    private void oneCall(int volumes, int regions, int dare) {
        int volume = pick(volumes);
        int side = pick(2);
        int block = dice.nextInt(30) == 0 ? pick(64) : dice.nextInt(regions) * 8 + pick(8);
        int word = pick(4);
        int v = dice.nextInt(3);
        String at = volume + ", " + side + ", " + block;
        // The model is asked here, as each call of the group is one of its 512.
        if (model.power() == 0 && dice.nextInt(3) == 0) {
            same("start()", group::start, model::start);
            return;
        }
        switch (dice.nextInt(32)) {
            case 0, 1, 2, 3, 4, 5 -> same("write(" + at + ", " + word + ", " + v + ")",
                    () -> { group.write(volume, side, block, word, v); return 0; },
                    () -> { model.write(volume, side, block, word, v); return 0; });
            case 6, 7 -> same("fill(" + at + ", 1, " + v + ", 2, 1)",
                    () -> { group.fill(volume, side, block, 1, v, 2, 1); return 0; },
                    () -> { model.fill(volume, side, block, 1, v, 2, 1); return 0; });
            case 8, 9 -> same("read(" + at + ", " + word + ")",
                    () -> group.read(volume, side, block, word),
                    () -> model.read(volume, side, block, word));
            case 10, 11, 12 -> same("raw(" + at + ", " + word + ")",
                    () -> group.raw(volume, side, block, word),
                    () -> model.raw(volume, side, block, word));
            case 13, 14 -> changeState(volume, side, volumes);
            case 15, 16 -> same("step(" + volume + ")",
                    () -> group.step(volume), () -> model.step(volume));
            case 17, 18, 19, 20 -> lookAtHeader(side);
            case 21, 22, 23, 24 -> lookAtHand(volume, side);
            case 25, 26 -> same("differing(" + volume + ")",
                    () -> group.differing(volume), () -> model.differing(volume));
            case 27 -> same("copied()", group::copied, model::copied);
            case 28 -> same("writes()", group::writes, model::writes);
            case 29 -> same("power()", group::power, model::power);
            default -> dareCut(dare);
        }
    }

    private void changeState(int volume, int side, int volumes) {
        switch (dice.nextInt(6)) {
            case 0 -> same("split()", group::split, model::split);
            case 1, 2 -> same("rejoin(" + volume + ", " + side + ")",
                    () -> { group.rejoin(volume, side); return 0; },
                    () -> { model.rejoin(volume, side); return 0; });
            case 3 -> same("run(" + volume + ")", () -> group.run(volume), () -> model.run(volume));
            default -> {
                if (model.volumes() < volumes || volumes == 6) {
                    same("makeVolume()", group::makeVolume, model::makeVolume);
                }
            }
        }
    }

    private void lookAtHeader(int side) {
        int what = dice.nextInt(3) == 0 ? pick(24) : 20 + dice.nextInt(4);
        same("head(" + side + ", " + what + ")",
                () -> group.head(side, what), () -> model.head(side, what));
    }

    private void lookAtHand(int volume, int side) {
        int place = pick(4);
        switch (dice.nextInt(4)) {
            case 0 -> same("state(" + volume + ")",
                    () -> group.state(volume), () -> model.state(volume));
            case 1 -> same("marked(" + volume + ", " + side + ")",
                    () -> group.marked(volume, side), () -> model.marked(volume, side));
            case 2 -> same("windowed(" + place + ")",
                    () -> group.windowed(place), () -> model.windowed(place));
            default -> same("volumes()", group::volumes, model::volumes);
        }
    }

    private void dareCut(int dare) {
        if (dare == 0) {
            same("writes()", group::writes, model::writes);
            return;
        }
        if (dice.nextInt(12) == 0) {
            same("start()", group::start, model::start);
            return;
        }
        int[] wrong = {-2, 1000001, -1, 1000000};
        int n = dice.nextInt(8) == 0 ? wrong[dice.nextInt(4)] : dice.nextInt(dare == 1 ? 6 : 40);
        same("cutAfter(" + n + ")",
                () -> { group.cutAfter(n); return 0; }, () -> { model.cutAfter(n); return 0; });
    }
}

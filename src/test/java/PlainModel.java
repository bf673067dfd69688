import java.util.ArrayList;
import java.util.Collections;
import java.util.List;

/**
 * A second reading of the document, built another way than the class: headers are values that are
 * never changed, and each call first makes the list of its writes and then does them in order.
 */
final class PlainModel {
    record Volume(int state, List<Integer> map0, List<Integer> map1) {
        boolean joined() {
            return state == 0;
        }

        boolean split() {
            return state == 1;
        }

        boolean rejoining() {
            return state == 2 || state == 3;
        }

        int winner() {
            return state - 2;
        }

        boolean has(int region) {
            return map0.contains(region) || map1.contains(region);
        }
    }

    record Head(int number, List<Volume> volumes, List<Integer> window) {
        Head with(int volume, Volume changed) {
            List<Volume> row = new ArrayList<>(volumes);
            row.set(volume, changed);
            return new Head(number, row, window);
        }

        Head withWindow(List<Integer> changed) {
            return new Head(number, volumes, changed);
        }

        Head next() {
            return new Head(number + 1, volumes, window);
        }
    }

    private final Head[] onSide = new Head[2];
    private final List<List<List<Integer>>> blocks = new ArrayList<>();
    private Head hand = new Head(0, List.of(), List.of());
    private boolean on = true;
    private int left = -1;
    private int done = 0;
    private int copies = 0;

    PlainModel() {
        onSide[0] = hand;
        onSide[1] = hand;
        for (int side = 0; side < 2; side++) {
            List<List<Integer>> row = new ArrayList<>();
            for (int i = 0; i < 6 * 64; i++) {
                row.add(List.of(0, 0, 0, 0));
            }
            blocks.add(row);
        }
    }

    private void mustBeOn() {
        if (!on) {
            throw new IllegalStateException();
        }
    }

    private static void mustBeIn(int i, int count) {
        if (i < 0 || i >= count) {
            throw new IndexOutOfBoundsException();
        }
    }

    private void perform(List<Runnable> todo) {
        for (Runnable write : todo) {
            if (left == 0) {
                on = false;
                left = -1;
                throw new IllegalStateException();
            }
            left = left < 0 ? left : left - 1;
            write.run();
            done++;
        }
    }

    private Runnable headerOn(int side, Head head) {
        return () -> onSide[side] = head;
    }

    private Runnable blockOn(int side, int volume, int block, List<Integer> words) {
        return () -> blocks.get(side).set(volume * 64 + block, words);
    }

    private List<Integer> blockOf(int side, int volume, int block) {
        return blocks.get(side).get(volume * 64 + block);
    }

    private void planHeader(List<Runnable> todo, Head changed) {
        hand = changed.next();
        todo.add(headerOn(0, hand));
        todo.add(headerOn(1, hand));
    }

    private void planRegion(List<Runnable> todo, int volume, int region, int from) {
        for (int block = 8 * region; block < 8 * region + 8; block++) {
            List<Integer> words = blockOf(from, volume, block);
            if (!words.equals(blockOf(1 - from, volume, block))) {
                todo.add(blockOn(1 - from, volume, block, words));
            }
        }
    }

    int makeVolume() {
        mustBeOn();
        if (hand.volumes().size() == 6) {
            return -1;
        }
        List<Volume> row = new ArrayList<>(hand.volumes());
        row.add(new Volume(0, List.of(), List.of()));
        List<Runnable> todo = new ArrayList<>();
        planHeader(todo, new Head(hand.number(), row, hand.window()));
        perform(todo);
        return row.size() - 1;
    }

    private int check(int volume, int side, int block) {
        mustBeOn();
        mustBeIn(volume, hand.volumes().size());
        mustBeIn(block, 64);
        Volume v = hand.volumes().get(volume);
        if (v.split()) {
            mustBeIn(side, 2);
            return side;
        }
        return v.joined() ? 0 : v.winner();
    }

    void write(int volume, int side, int block, int word, int v) {
        int first = check(volume, side, block);
        mustBeIn(word, 4);
        List<Integer> words = new ArrayList<>(blockOf(first, volume, block));
        words.set(word, v);
        put(volume, first, block, words);
    }

    void fill(int volume, int side, int block, int a, int b, int c, int d) {
        int first = check(volume, side, block);
        put(volume, first, block, List.of(a, b, c, d));
    }

    private void put(int volume, int first, int block, List<Integer> words) {
        Volume v = hand.volumes().get(volume);
        int region = block / 8;
        List<Runnable> todo = new ArrayList<>();
        if (v.split()) {
            List<Integer> map = first == 0 ? v.map0() : v.map1();
            if (!map.contains(region)) {
                List<Integer> more = new ArrayList<>(map);
                more.add(region);
                planHeader(todo, hand.with(volume, first == 0
                        ? new Volume(1, more, v.map1()) : new Volume(1, v.map0(), more)));
            }
            todo.add(blockOn(first, volume, block, words));
        } else if (v.rejoining() && v.has(region)) {
            todo.add(blockOn(first, volume, block, words));
        } else {
            int place = 8 * volume + region;
            if (!hand.window().contains(place)) {
                List<Integer> window = new ArrayList<>(hand.window());
                if (window.size() == 4) {
                    window.remove(0);
                }
                window.add(place);
                planHeader(todo, hand.withWindow(window));
            }
            todo.add(blockOn(first, volume, block, words));
            todo.add(blockOn(1 - first, volume, block, words));
        }
        perform(todo);
    }

    int read(int volume, int side, int block, int word) {
        int from = check(volume, side, block);
        mustBeIn(word, 4);
        return blockOf(from, volume, block).get(word);
    }

    int split() {
        mustBeOn();
        List<Volume> row = new ArrayList<>();
        List<Integer> window = new ArrayList<>(hand.window());
        int found = 0;
        for (int i = 0; i < hand.volumes().size(); i++) {
            Volume v = hand.volumes().get(i);
            int volume = i;
            if (v.joined()) {
                found++;
                window.removeIf(place -> place / 8 == volume);
                v = new Volume(1, List.of(), List.of());
            }
            row.add(v);
        }
        if (found > 0) {
            List<Runnable> todo = new ArrayList<>();
            planHeader(todo, new Head(hand.number(), row, window));
            perform(todo);
        }
        return found;
    }

    void rejoin(int volume, int winner) {
        mustBeOn();
        mustBeIn(volume, hand.volumes().size());
        mustBeIn(winner, 2);
        Volume v = hand.volumes().get(volume);
        if (!v.split()) {
            throw new UnsupportedOperationException();
        }
        List<Runnable> todo = new ArrayList<>();
        planHeader(todo, hand.with(volume, new Volume(2 + winner, v.map0(), v.map1())));
        perform(todo);
    }

    int step(int volume) {
        mustBeOn();
        mustBeIn(volume, hand.volumes().size());
        Volume v = hand.volumes().get(volume);
        if (!v.rejoining()) {
            throw new UnsupportedOperationException();
        }
        List<Integer> regions = new ArrayList<>(v.map0());
        regions.removeAll(v.map1());
        regions.addAll(v.map1());
        List<Integer> map0 = new ArrayList<>(v.map0());
        List<Integer> map1 = new ArrayList<>(v.map1());
        List<Runnable> todo = new ArrayList<>();
        int copiesNow = 0;
        if (!regions.isEmpty()) {
            Integer lowest = Collections.min(regions);
            planRegion(todo, volume, lowest, v.winner());
            regions.remove(lowest);
            map0.remove(lowest);
            map1.remove(lowest);
            copiesNow = 1;
        }
        int state = regions.isEmpty() ? 0 : v.state();
        planHeader(todo, hand.with(volume, new Volume(state, map0, map1)));
        perform(todo);
        copies += copiesNow;
        return regions.size();
    }

    int run(int volume) {
        int steps = 1;
        while (step(volume) > 0) {
            steps++;
        }
        return steps;
    }

    private static int bits(List<Integer> map) {
        int bits = 0;
        for (int region : map) {
            bits += 1 << region;
        }
        return bits;
    }

    int state(int volume) {
        return on ? item(hand, volume, 2) : -1;
    }

    int marked(int volume, int side) {
        return on && (side == 0 || side == 1) ? item(hand, volume, 8 + 6 * side) : -1;
    }

    private static int item(Head head, int volume, int base) {
        if (volume < 0 || volume >= head.volumes().size()) {
            return -1;
        }
        Volume v = head.volumes().get(volume);
        return base == 2 ? v.state() : base == 8 ? bits(v.map0()) : bits(v.map1());
    }

    private static int place(Head head, int i) {
        return i >= 0 && i < head.window().size() ? head.window().get(i) : -1;
    }

    int windowed(int i) {
        return on ? place(hand, i) : -1;
    }

    int volumes() {
        return on ? hand.volumes().size() : -1;
    }

    int differing(int volume) {
        mustBeIn(volume, 6);
        int found = 0;
        for (int block = 0; block < 64; block++) {
            found += blockOf(0, volume, block).equals(blockOf(1, volume, block)) ? 0 : 1;
        }
        return found;
    }

    int raw(int volume, int side, int block, int word) {
        mustBeIn(volume, 6);
        mustBeIn(side, 2);
        mustBeIn(block, 64);
        mustBeIn(word, 4);
        return blockOf(side, volume, block).get(word);
    }

    int head(int side, int what) {
        mustBeIn(side, 2);
        mustBeIn(what, 24);
        Head head = onSide[side];
        if (what == 0) {
            return head.number();
        }
        if (what == 1) {
            return head.volumes().size();
        }
        if (what >= 20) {
            return place(head, what - 20);
        }
        int base = what < 8 ? 2 : what < 14 ? 8 : 14;
        return item(head, what - base, base);
    }

    int copied() {
        return copies;
    }

    int writes() {
        return done;
    }

    int power() {
        return on ? 1 : 0;
    }

    void cutAfter(int n) {
        if (n < -1 || n > 1000000) {
            throw new IllegalArgumentException();
        }
        left = n;
    }

    int start() {
        on = true;
        copies = 0;
        int newer = onSide[1].number() > onSide[0].number() ? 1 : 0;
        hand = onSide[newer];
        List<Runnable> todo = new ArrayList<>();
        if (onSide[0].number() != onSide[1].number()) {
            todo.add(headerOn(1 - newer, hand));
        }
        for (int place : hand.window()) {
            Volume v = hand.volumes().get(place / 8);
            if (v.joined()) {
                planRegion(todo, place / 8, place % 8, 0);
            } else if (v.rejoining() && !v.has(place % 8)) {
                planRegion(todo, place / 8, place % 8, v.winner());
            }
        }
        if (!hand.window().isEmpty()) {
            planHeader(todo, hand.withWindow(List.of()));
        }
        perform(todo);
        return hand.volumes().size();
    }
}

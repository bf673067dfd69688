/**
 * Volumes that are kept on two sides, split and rejoined while they are in use, with power that
 * may fail behind any write. The promises that this class keeps are numbered in DOC.md.
 */
public final class MirrorGroup {
    public static final int NONE = -1;

    private static final int SIDES = 2;
    private static final int VOLUMES = 6;
    private static final int BLOCKS = 64;
    private static final int WORDS = 4;
    private static final int REGIONS = 8;
    private static final int REGION_BLOCKS = 8;
    private static final int PLACES = 4;
    private static final int MOST_BEFORE_CUT = 1000000;

    private static final int JOINED = 0;
    private static final int SPLIT = 1;
    /** The state of a rejoining volume is this and the number of the winner. */
    private static final int REJOINING = 2;

    /** The words of all blocks of both sides, in the order that blockAt() tells. */
    private final int[] stored;
    private final Header headerOnSide0;
    private final Header headerOnSide1;
    /** The header that calls look at and change; it has no meaning while power is off. */
    private final Header atHand;
    /** The block that is about to be written: kept here so that no call makes an array. */
    private final int[] fresh;

    private boolean powered;
    /** How many more writes are done before power fails; NONE when it is not to fail. */
    private int writesLeft;
    private int writesDone;
    private int regionsCopied;

    public MirrorGroup() {
        stored = new int[SIDES * VOLUMES * BLOCKS * WORDS];
        headerOnSide0 = new Header();
        headerOnSide1 = new Header();
        atHand = new Header();
        fresh = new int[WORDS];
        powered = true;
        writesLeft = NONE;
        writesDone = 0;
        regionsCopied = 0;
    }

    public int makeVolume() throws IllegalStateException {
        requirePower();
        if (atHand.volumeCount() == VOLUMES) {
            return NONE;
        }
        int volume = atHand.addVolume();
        writeHeader();
        return volume;
    }

    public void write(int volume, int side, int block, int word, int v)
            throws IllegalStateException, IndexOutOfBoundsException {
        requirePower();
        requireBlock(volume, side, block);
        requireWord(word);
        int first = sideInUse(volume, side);
        System.arraycopy(stored, blockAt(volume, first, block), fresh, 0, WORDS);
        fresh[word] = v;
        putFresh(volume, first, block);
    }

    public void fill(int volume, int side, int block, int a, int b, int c, int d)
            throws IllegalStateException, IndexOutOfBoundsException {
        requirePower();
        requireBlock(volume, side, block);
        fresh[0] = a;
        fresh[1] = b;
        fresh[2] = c;
        fresh[3] = d;
        putFresh(volume, sideInUse(volume, side), block);
    }

    public int read(int volume, int side, int block, int word)
            throws IllegalStateException, IndexOutOfBoundsException {
        requirePower();
        requireBlock(volume, side, block);
        requireWord(word);
        return stored[blockAt(volume, sideInUse(volume, side), block) + word];
    }

    public int split() throws IllegalStateException {
        requirePower();
        int count = atHand.volumeCount();
        int found = 0;
        for (int volume = 0; volume < count; volume++) {
            if (atHand.stateOf(volume) == JOINED) {
                atHand.setState(volume, SPLIT);
                atHand.clearMaps(volume);
                atHand.leaveWindow(volume);
                found++;
            }
        }
        if (found > 0) {
            writeHeader();
        }
        return found;
    }

    public void rejoin(int volume, int winner)
            throws IllegalStateException, IndexOutOfBoundsException, UnsupportedOperationException {
        requirePower();
        requireVolume(volume);
        requireSide(winner);
        if (atHand.stateOf(volume) != SPLIT) {
            throw new UnsupportedOperationException("the volume is not split");
        }
        atHand.setState(volume, REJOINING + winner);
        writeHeader();
    }

    public int step(int volume)
            throws IllegalStateException, IndexOutOfBoundsException, UnsupportedOperationException {
        requirePower();
        requireRejoining(volume);
        copyNextRegion(volume);
        return Integer.bitCount(atHand.marksOf(volume));
    }

    public int run(int volume)
            throws IllegalStateException, IndexOutOfBoundsException, UnsupportedOperationException {
        requirePower();
        requireRejoining(volume);
        int steps = 0;
        while (steps < REGIONS && atHand.stateOf(volume) != JOINED) {
            copyNextRegion(volume);
            steps++;
        }
        return steps;
    }

    public int state(int volume) {
        return powered && isVolume(volume) ? atHand.stateOf(volume) : NONE;
    }

    public int marked(int volume, int side) {
        return powered && isVolume(volume) && isSide(side) ? atHand.mapOf(volume, side) : NONE;
    }

    public int windowed(int i) {
        return powered && i >= 0 && i < PLACES ? atHand.placeAt(i) : NONE;
    }

    public int volumes() {
        return powered ? atHand.volumeCount() : NONE;
    }

    public int differing(int volume) throws IndexOutOfBoundsException {
        requireRoomOf(volume);
        int found = 0;
        for (int block = 0; block < BLOCKS; block++) {
            if (!isSameOnBothSides(volume, block)) {
                found++;
            }
        }
        return found;
    }

    public int raw(int volume, int side, int block, int word) throws IndexOutOfBoundsException {
        requireRoomOf(volume);
        requireSide(side);
        requireBlockNumber(block);
        requireWord(word);
        return stored[blockAt(volume, side, block) + word];
    }

    public int head(int side, int what) throws IndexOutOfBoundsException {
        requireSide(side);
        if (what < 0 || what >= Header.ITEMS) {
            throw new IndexOutOfBoundsException("no such item of a header");
        }
        return headerOn(side).itemAt(what);
    }

    public int copied() {
        return regionsCopied;
    }

    public int writes() {
        return writesDone;
    }

    public int power() {
        return powered ? 1 : 0;
    }

    public void cutAfter(int n) throws IllegalArgumentException {
        if (n < NONE || n > MOST_BEFORE_CUT) {
            throw new IllegalArgumentException("not a number of writes");
        }
        writesLeft = n;
    }

    public int start() throws IllegalStateException {
        powered = true;
        regionsCopied = 0;
        takeNewerHeader();
        mendWindow();
        return atHand.volumeCount();
    }

    // What is asked of arguments and of power.

    private void requirePower() {
        if (!powered) {
            throw new IllegalStateException("power is off");
        }
    }

    private void requireVolume(int volume) {
        if (!isVolume(volume)) {
            throw new IndexOutOfBoundsException("no such volume");
        }
    }

    /** Each volume that could ever be made has its place on both sides from the beginning. */
    private void requireRoomOf(int volume) {
        if (volume < 0 || volume >= VOLUMES) {
            throw new IndexOutOfBoundsException("no room for such a volume");
        }
    }

    private void requireSide(int side) {
        if (!isSide(side)) {
            throw new IndexOutOfBoundsException("no such side");
        }
    }

    private void requireBlockNumber(int block) {
        if (block < 0 || block >= BLOCKS) {
            throw new IndexOutOfBoundsException("no such block");
        }
    }

    private void requireWord(int word) {
        if (word < 0 || word >= WORDS) {
            throw new IndexOutOfBoundsException("no such word");
        }
    }

    private void requireBlock(int volume, int side, int block) {
        requireVolume(volume);
        if (atHand.stateOf(volume) == SPLIT) {
            requireSide(side);
        }
        requireBlockNumber(block);
    }

    private void requireRejoining(int volume) {
        requireVolume(volume);
        if (!isRejoining(volume)) {
            throw new UnsupportedOperationException("the volume is not rejoining");
        }
    }

    private boolean isVolume(int volume) {
        return volume >= 0 && volume < atHand.volumeCount();
    }

    private boolean isRejoining(int volume) {
        return atHand.stateOf(volume) >= REJOINING;
    }

    private static boolean isSide(int side) {
        return side >= 0 && side < SIDES;
    }

    // Where things stand.

    private static int blockAt(int volume, int side, int block) {
        return ((side * VOLUMES + volume) * BLOCKS + block) * WORDS;
    }

    private static int otherSide(int side) {
        return 1 - side;
    }

    private Header headerOn(int side) {
        return side == 0 ? headerOnSide0 : headerOnSide1;
    }

    /** The side that is read, and written first; the named one counts in a split volume alone. */
    private int sideInUse(int volume, int named) {
        int state = atHand.stateOf(volume);
        if (state == SPLIT) {
            return named;
        }
        return state == JOINED ? 0 : state - REJOINING;
    }

    private boolean isSameOnBothSides(int volume, int block) {
        int here = blockAt(volume, 0, block);
        int there = blockAt(volume, 1, block);
        for (int word = 0; word < WORDS; word++) {
            if (stored[here + word] != stored[there + word]) {
                return false;
            }
        }
        return true;
    }

    // Writes, each of which may be the one that fails.

    /** Comes before every single write, so that a write that fails leaves nothing behind. */
    private void spendWrite() {
        if (writesLeft == 0) {
            powered = false;
            writesLeft = NONE;
            throw new IllegalStateException("power fails");
        }
        if (writesLeft > 0) {
            writesLeft--;
        }
        writesDone++;
    }

    private void writeHeader() {
        atHand.countUp();
        writeHeaderOn(0);
        writeHeaderOn(1);
    }

    private void writeHeaderOn(int side) {
        spendWrite();
        headerOn(side).takeFrom(atHand);
    }

    private void writeFresh(int volume, int side, int block) {
        spendWrite();
        System.arraycopy(fresh, 0, stored, blockAt(volume, side, block), WORDS);
    }

    private void writeFromSide(int volume, int side, int block) {
        System.arraycopy(stored, blockAt(volume, side, block), fresh, 0, WORDS);
        writeFresh(volume, otherSide(side), block);
    }

    // What a write and a step do, by the volume's state.

    private void putFresh(int volume, int first, int block) {
        int region = block / REGION_BLOCKS;
        if (atHand.stateOf(volume) == SPLIT) {
            markBeforeWrite(volume, first, region);
            writeFresh(volume, first, block);
        } else if (atHand.isMarked(volume, region)) {
            // Such a region is still to be copied from the winner, this block with it.
            writeFresh(volume, first, block);
        } else {
            enterBeforeWrite(volume, region);
            writeFresh(volume, first, block);
            writeFresh(volume, otherSide(first), block);
        }
    }

    private void markBeforeWrite(int volume, int side, int region) {
        if ((atHand.mapOf(volume, side) >> region & 1) == 0) {
            atHand.mark(volume, side, region);
            writeHeader();
        }
    }

    private void enterBeforeWrite(int volume, int region) {
        int place = volume * REGIONS + region;
        if (!atHand.isInWindow(place)) {
            atHand.enterWindow(place);
            writeHeader();
        }
    }

    /** One step of a rejoining volume. */
    private void copyNextRegion(int volume) {
        int region = atHand.lowestMarked(volume);
        int copies = 0;
        if (region != NONE) {
            makeSame(volume, region);
            atHand.clearRegion(volume, region);
            copies = 1;
        }
        if (atHand.marksOf(volume) == 0) {
            atHand.setState(volume, JOINED);
        }
        writeHeader();
        // Counted last: a step that power cuts short does not count.
        regionsCopied += copies;
    }

    /** Writes what differs in a region from the side in use on the other one. */
    private void makeSame(int volume, int region) {
        int from = sideInUse(volume, 0);
        int firstBlock = region * REGION_BLOCKS;
        for (int block = firstBlock; block < firstBlock + REGION_BLOCKS; block++) {
            if (!isSameOnBothSides(volume, block)) {
                writeFromSide(volume, from, block);
            }
        }
    }

    // What start() does.

    private void takeNewerHeader() {
        int number0 = headerOnSide0.number();
        int number1 = headerOnSide1.number();
        int newer = number1 > number0 ? 1 : 0;
        atHand.takeFrom(headerOn(newer));
        if (number0 != number1) {
            writeHeaderOn(otherSide(newer));
        }
    }

    private void mendWindow() {
        if (atHand.placeAt(0) == NONE) {
            return;
        }
        for (int i = 0; i < PLACES; i++) {
            int place = atHand.placeAt(i);
            if (place != NONE) {
                mendRegion(place / REGIONS, place % REGIONS);
            }
        }
        atHand.emptyWindow();
        writeHeader();
    }

    private void mendRegion(int volume, int region) {
        if (atHand.stateOf(volume) != SPLIT && !atHand.isMarked(volume, region)) {
            makeSame(volume, region);
        }
    }

    /** A header, held as the row of items that head() answers. */
    private static final class Header {
        static final int ITEMS = 24;

        private static final int NUMBER_AT = 0;
        private static final int COUNT_AT = 1;
        private static final int STATES_AT = 2;
        private static final int MAPS_AT = 8;
        private static final int WINDOW_AT = 20;

        private final int[] items;

        Header() {
            items = new int[ITEMS];
            for (int what = STATES_AT; what < ITEMS; what++) {
                items[what] = NONE;
            }
        }

        void takeFrom(Header other) {
            System.arraycopy(other.items, 0, items, 0, ITEMS);
        }

        int itemAt(int what) {
            return items[what];
        }

        int number() {
            return items[NUMBER_AT];
        }

        void countUp() {
            items[NUMBER_AT]++;
        }

        int volumeCount() {
            return items[COUNT_AT];
        }

        int addVolume() {
            int volume = items[COUNT_AT];
            items[COUNT_AT] = volume + 1;
            setState(volume, JOINED);
            clearMaps(volume);
            return volume;
        }

        int stateOf(int volume) {
            return items[STATES_AT + volume];
        }

        void setState(int volume, int state) {
            items[STATES_AT + volume] = state;
        }

        int mapOf(int volume, int side) {
            return items[mapAt(volume, side)];
        }

        /** The regions that have a bit in one of both maps. */
        int marksOf(int volume) {
            return mapOf(volume, 0) | mapOf(volume, 1);
        }

        boolean isMarked(int volume, int region) {
            return (marksOf(volume) >> region & 1) != 0;
        }

        int lowestMarked(int volume) {
            for (int region = 0; region < REGIONS; region++) {
                if (isMarked(volume, region)) {
                    return region;
                }
            }
            return NONE;
        }

        void mark(int volume, int side, int region) {
            items[mapAt(volume, side)] |= 1 << region;
        }

        void clearRegion(int volume, int region) {
            items[mapAt(volume, 0)] &= ~(1 << region);
            items[mapAt(volume, 1)] &= ~(1 << region);
        }

        void clearMaps(int volume) {
            items[mapAt(volume, 0)] = 0;
            items[mapAt(volume, 1)] = 0;
        }

        private static int mapAt(int volume, int side) {
            return MAPS_AT + side * VOLUMES + volume;
        }

        int placeAt(int i) {
            return items[WINDOW_AT + i];
        }

        boolean isInWindow(int place) {
            for (int i = 0; i < PLACES; i++) {
                if (placeAt(i) == place) {
                    return true;
                }
            }
            return false;
        }

        void enterWindow(int place) {
            int size = windowSize();
            if (size == PLACES) {
                System.arraycopy(items, WINDOW_AT + 1, items, WINDOW_AT, PLACES - 1);
                size = PLACES - 1;
            }
            items[WINDOW_AT + size] = place;
        }

        private int windowSize() {
            int size = 0;
            while (size < PLACES && placeAt(size) != NONE) {
                size++;
            }
            return size;
        }

        /** The regions of one volume go; the others stay in their order, without gaps. */
        void leaveWindow(int volume) {
            int kept = 0;
            for (int i = 0; i < PLACES; i++) {
                int place = placeAt(i);
                items[WINDOW_AT + i] = NONE;
                if (place != NONE && place / REGIONS != volume) {
                    items[WINDOW_AT + kept] = place;
                    kept++;
                }
            }
        }

        void emptyWindow() {
            for (int i = 0; i < PLACES; i++) {
                items[WINDOW_AT + i] = NONE;
            }
        }
    }
}

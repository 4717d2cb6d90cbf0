/** The free space on a disk of 256 blocks, as extents of free blocks. */
public final class ExtentIndex {
    public static final int BAD_BLOCK = -1;
    public static final int BAD_SIZE = -2;
    public static final int NO_SPACE = -3;
    public static final int TAKEN = -4;
    public static final int FREE = -5;
    public static final int NONE = -6;

    private static final int BLOCKS = 256;

    // The blocks are the whole state: extents are read off them at each call,
    // so that no second account of the same space can fall out of step.
    private final boolean[] used = new boolean[BLOCKS];

    public ExtentIndex() {
        setAll(0, BLOCKS, false);
    }

    public int take(int n) {
        if (!isSize(n)) {
            return BAD_SIZE;
        }
        int place = smallestWith(n);
        if (place == NONE) {
            return NO_SPACE;
        }
        setAll(place, n, true);
        return place;
    }

    public int takeNear(int near, int n) {
        if (!isBlock(near)) {
            return BAD_BLOCK;
        }
        if (!isSize(n)) {
            return BAD_SIZE;
        }
        int place = nearestWith(near, n);
        if (place == NONE) {
            return NO_SPACE;
        }
        setAll(place, n, true);
        return place;
    }

    public int takeAt(int from, int n) {
        if (!isBlock(from)) {
            return BAD_BLOCK;
        }
        if (!fits(from, n)) {
            return BAD_SIZE;
        }
        if (anyIs(from, n, true)) {
            return TAKEN;
        }
        setAll(from, n, true);
        return extents();
    }

    public int give(int from, int n) {
        if (!isBlock(from)) {
            return BAD_BLOCK;
        }
        if (!fits(from, n)) {
            return BAD_SIZE;
        }
        if (anyIs(from, n, false)) {
            return FREE;
        }
        setAll(from, n, false);
        return sizeAt(from);
    }

    public int takePieces(int n) {
        if (!isSize(n)) {
            return BAD_SIZE;
        }
        int got = 0;
        // Each round takes a block or more, so there are never more rounds than blocks.
        for (int round = 0; round < BLOCKS && got < n; round++) {
            int place = largestPlace();
            if (place == NONE) {
                break;
            }
            int size = sizeFrom(place);
            int wanted = n - got;
            int piece = size < wanted ? size : wanted;
            setAll(place, piece, true);
            got += piece;
        }
        return got;
    }

    public void clear() {
        setAll(0, BLOCKS, false);
    }

    public boolean free(int block) {
        return isBlock(block) && !used[block];
    }

    public int freeBlocks() {
        int count = 0;
        for (int block = 0; block < BLOCKS; block++) {
            if (!used[block]) {
                count++;
            }
        }
        return count;
    }

    public int extents() {
        return countWith(1);
    }

    public int largest() {
        int place = largestPlace();
        return place == NONE ? 0 : sizeFrom(place);
    }

    public int next(int block) {
        if (!isBlock(block)) {
            return BAD_BLOCK;
        }
        for (int place = block; place < BLOCKS; place++) {
            if (isPlace(place)) {
                return place;
            }
        }
        return NONE;
    }

    public int sizeAt(int block) {
        if (!isBlock(block)) {
            return BAD_BLOCK;
        }
        if (used[block]) {
            return 0;
        }
        int place = placeOf(block);
        return sizeFrom(place);
    }

    public int bySize(int i) {
        int rank = 0;
        for (int size = 1; size <= BLOCKS; size++) {
            for (int place = 0; place < BLOCKS; place++) {
                if (isPlace(place) && sizeFrom(place) == size) {
                    if (rank == i) {
                        return place;
                    }
                    rank++;
                }
            }
        }
        return NONE;
    }

    public int atLeast(int n) {
        return countWith(n);
    }

    private boolean isBlock(int block) {
        return block >= 0 && block < BLOCKS;
    }

    private boolean isSize(int n) {
        return n >= 1 && n <= BLOCKS;
    }

    // Compares with what is left behind 'from', as from + n could wrap around.
    private boolean fits(int from, int n) {
        return isSize(n) && n <= BLOCKS - from;
    }

    private boolean isPlace(int block) {
        return !used[block] && (block == 0 || used[block - 1]);
    }

    private int placeOf(int freeBlock) {
        int place = freeBlock;
        while (place > 0 && !used[place - 1]) {
            place--;
        }
        return place;
    }

    private int sizeFrom(int place) {
        int end = place;
        while (end < BLOCKS && !used[end]) {
            end++;
        }
        return end - place;
    }

    private int countWith(int n) {
        int count = 0;
        for (int place = 0; place < BLOCKS; place++) {
            if (isPlace(place) && sizeFrom(place) >= n) {
                count++;
            }
        }
        return count;
    }

    private int smallestWith(int n) {
        int best = NONE;
        int bestSize = BLOCKS + 1;
        for (int place = 0; place < BLOCKS; place++) {
            if (isPlace(place)) {
                int size = sizeFrom(place);
                // Strictly smaller: of equal ones the earlier place stays.
                if (size >= n && size < bestSize) {
                    best = place;
                    bestSize = size;
                }
            }
        }
        return best;
    }

    private int nearestWith(int near, int n) {
        int best = NONE;
        int bestDistance = BLOCKS;
        for (int place = 0; place < BLOCKS; place++) {
            if (isPlace(place) && sizeFrom(place) >= n) {
                int distance = place < near ? near - place : place - near;
                // Strictly nearer: of equal ones the earlier place stays.
                if (distance < bestDistance) {
                    best = place;
                    bestDistance = distance;
                }
            }
        }
        return best;
    }

    private int largestPlace() {
        int best = NONE;
        int bestSize = 0;
        for (int place = 0; place < BLOCKS; place++) {
            if (isPlace(place)) {
                int size = sizeFrom(place);
                // Strictly larger: of equal ones the earlier place stays.
                if (size > bestSize) {
                    best = place;
                    bestSize = size;
                }
            }
        }
        return best;
    }

    private boolean anyIs(int from, int n, boolean state) {
        for (int block = from; block < from + n; block++) {
            if (used[block] == state) {
                return true;
            }
        }
        return false;
    }

    private void setAll(int from, int n, boolean state) {
        for (int block = from; block < from + n; block++) {
            used[block] = state;
        }
    }
}

import java.util.Arrays;

/**
 * Each sentence of the document that names a boundary case, as a test of its own.
 *
 * A layout tells the free extents of a disk in ascending order, as place, size, place, size and
 * so on. Each check makes a disk of a layout, makes one call on it, and looks at the answer and
 * at the whole state behind it; so a check of a refused call also tests that nothing changed.
 */
public final class ExtentIndexBoundaries {
    private static final int MIN = Integer.MIN_VALUE;
    private static final int MAX = Integer.MAX_VALUE;

    private static final int BAD_BLOCK = -1;
    private static final int BAD_SIZE = -2;
    private static final int NO_SPACE = -3;
    private static final int TAKEN = -4;
    private static final int FREE = -5;
    private static final int NONE = -6;

    // Next to the boundaries, those that a byte or a short would wrap into them, the outermost.
    private static final int[] NO_BLOCKS =
        {-1, -2, -255, -256, -257, MIN, MIN + 1, 256, 257, 511, 512, 65536, MAX - 1, MAX};
    private static final int[] NO_SIZES =
        {0, -1, -2, -255, -256, -257, MIN, MIN + 1, 257, 258, 512, 513, 65537, MAX - 1, MAX};

    private static final int[] ALL_FREE = {0, 256};
    private static final int[] ALL_TAKEN = {};
    private static final int[] BOTH_ENDS = {0, 1, 255, 1};
    private static final int[] MIXED = {10, 8, 30, 5, 50, 6, 70, 5, 90, 4};
    private static final int[][] LAYOUTS =
        {ALL_FREE, ALL_TAKEN, BOTH_ENDS, MIXED, {0, 255}, {1, 255}, {0, 100, 101, 155}};

    // Three ways to the same layout, as the way must not show in any answer.
    private static final int WAYS = 3;
    // With more extents, looking at each of them would need more than the 512 calls of an object.
    private static final int MOST_LOOKED_AT = 20;

    private static int tests = 0;
    private static int wrong = 0;

    private interface Call {
        Object on(ExtentIndex x);
    }

    public static void main(String[] args) {
        terms();
        newObject();
        take();
        takeNear();
        takeAt();
        give();
        takePieces();
        clear();
        free();
        counts();
        next();
        sizeAt();
        bySize();
        atLeast();
        order();
        calls();
        System.out.println(wrong == 0
            ? tests + " boundary cases hold"
            : wrong + " answers are not as due");
        if (wrong != 0) {
            System.exit(1);
        }
    }

    // ---- the frame

    private static void test(String sentence, Runnable body) {
        tests++;
        int before = wrong;
        body.run();
        if (wrong != before) {
            System.out.println("BROKEN " + sentence);
        }
    }

    private static void due(String call, Object got, Object want) {
        if (!want.equals(got)) {
            wrong++;
            System.out.println(call + " answered " + got + ", due is " + want);
        }
    }

    private static void check(String call, int[] before, Call made, Object want, int... after) {
        for (int way = 0; way < WAYS; way++) {
            ExtentIndex x = disk(way, before);
            String told = "with free " + Arrays.toString(before) + " " + call;
            due(told, made.on(x), want);
            dueState("after: " + told + ": ", x, after);
        }
    }

    private static ExtentIndex disk(int way, int... layout) {
        ExtentIndex x = new ExtentIndex();
        if (way == 0) {
            takeTheGaps(x, layout);
            return x;
        }
        x.takeAt(0, 256);
        for (int i = 0; i < layout.length; i += 2) {
            int at = way == 1 ? i : layout.length - 2 - i;
            x.give(layout[at], layout[at + 1]);
        }
        return x;
    }

    private static void takeTheGaps(ExtentIndex x, int[] layout) {
        int from = 0;
        for (int i = 0; i < layout.length; i += 2) {
            if (layout[i] > from) {
                x.takeAt(from, layout[i] - from);
            }
            from = layout[i] + layout[i + 1];
        }
        if (from < 256) {
            x.takeAt(from, 256 - from);
        }
    }

    private static void dueState(String after, ExtentIndex x, int... layout) {
        boolean[] isFree = new boolean[256];
        int sum = 0;
        int most = 0;
        for (int i = 0; i < layout.length; i += 2) {
            Arrays.fill(isFree, layout[i], layout[i] + layout[i + 1], true);
            sum += layout[i + 1];
            most = Math.max(most, layout[i + 1]);
        }
        for (int block = 0; block < 256; block++) {
            if (x.free(block) != isFree[block]) {
                due(after + "free(" + block + ")", !isFree[block], isFree[block]);
            }
        }
        due(after + "freeBlocks()", x.freeBlocks(), sum);
        due(after + "extents()", x.extents(), layout.length / 2);
        due(after + "largest()", x.largest(), most);
        if (layout.length / 2 <= MOST_LOOKED_AT) {
            dueExtents(after, x, layout);
        }
    }

    private static void dueExtents(String after, ExtentIndex x, int[] layout) {
        for (int i = 0; i < layout.length; i += 2) {
            int last = layout[i] + layout[i + 1] - 1;
            due(after + "next(" + layout[i] + ")", x.next(layout[i]), layout[i]);
            due(after + "sizeAt(" + last + ")", x.sizeAt(last), layout[i + 1]);
            int smaller = 0;
            int asLarge = 0;
            for (int j = 0; j < layout.length; j += 2) {
                boolean isBefore = layout[j + 1] < layout[i + 1]
                    || layout[j + 1] == layout[i + 1] && j < i;
                smaller += isBefore ? 1 : 0;
                asLarge += layout[j + 1] >= layout[i + 1] ? 1 : 0;
            }
            due(after + "bySize(" + smaller + ")", x.bySize(smaller), layout[i]);
            due(after + "atLeast(" + layout[i + 1] + ")", x.atLeast(layout[i + 1]), asLarge);
        }
        due(after + "bySize(" + layout.length / 2 + ")", x.bySize(layout.length / 2), NONE);
    }

    /** Every second block is free, 'first' being the first of them. */
    private static int[] comb(int first) {
        int[] layout = new int[256];
        for (int i = 0; i < 128; i++) {
            layout[2 * i] = first + 2 * i;
            layout[2 * i + 1] = 1;
        }
        return layout;
    }

    /** The layout of one extent; of none, if it would have no block. */
    private static int[] extent(int place, int size) {
        return size == 0 ? ALL_TAKEN : new int[] {place, size};
    }

    private static int[] allBut(int from, int n) {
        int end = from + n;
        if (from == 0) {
            return extent(end, 256 - end);
        }
        return end == 256 ? extent(0, from) : new int[] {0, from, end, 256 - end};
    }

    private static void take(int[] before, int n, int want, int... after) {
        check("take(" + n + ")", before, x -> x.take(n), want, after);
    }

    private static void takeNear(int[] before, int near, int n, int want, int... after) {
        check("takeNear(" + near + ", " + n + ")", before, x -> x.takeNear(near, n), want, after);
    }

    private static void takeAt(int[] before, int from, int n, int want, int... after) {
        check("takeAt(" + from + ", " + n + ")", before, x -> x.takeAt(from, n), want, after);
    }

    private static void give(int[] before, int from, int n, int want, int... after) {
        check("give(" + from + ", " + n + ")", before, x -> x.give(from, n), want, after);
    }

    private static void takePieces(int[] before, int n, int want, int... after) {
        check("takePieces(" + n + ")", before, x -> x.takePieces(n), want, after);
    }

    private static void free(int[] layout, int block, boolean want) {
        check("free(" + block + ")", layout, x -> x.free(block), want, layout);
    }

    private static void next(int[] layout, int block, int want) {
        check("next(" + block + ")", layout, x -> x.next(block), want, layout);
    }

    private static void sizeAt(int[] layout, int block, int want) {
        check("sizeAt(" + block + ")", layout, x -> x.sizeAt(block), want, layout);
    }

    private static void bySize(int[] layout, int i, int want) {
        check("bySize(" + i + ")", layout, x -> x.bySize(i), want, layout);
    }

    private static void atLeast(int[] layout, int n, int want) {
        check("atLeast(" + n + ")", layout, x -> x.atLeast(n), want, layout);
    }

    private static void freeBlocks(int[] layout, int want) {
        check("freeBlocks()", layout, x -> x.freeBlocks(), want, layout);
    }

    private static void extents(int[] layout, int want) {
        check("extents()", layout, x -> x.extents(), want, layout);
    }

    private static void largest(int[] layout, int want) {
        check("largest()", layout, x -> x.largest(), want, layout);
    }

    private static int[] layout(int... layout) {
        return layout;
    }

    // ---- terms

    private static void terms() {
        test("Terms: an extent is as long as possible: neighbours given apart are one", () -> {
            give(layout(10, 5), 15, 1, 6, 10, 6);
            give(layout(10, 5), 9, 1, 6, 9, 6);
            give(layout(10, 5, 16, 4), 15, 1, 10, 10, 10);
        });
        test("Terms: one taken block parts two extents", () -> {
            extents(layout(0, 100, 101, 155), 2);
            largest(layout(0, 100, 101, 155), 155);
            sizeAt(layout(0, 100, 101, 155), 99, 100);
            sizeAt(layout(0, 100, 101, 155), 101, 155);
        });
        test("Terms: block 255 and block 0 are not side by side", () -> {
            extents(BOTH_ENDS, 2);
            largest(BOTH_ENDS, 1);
            sizeAt(BOTH_ENDS, 0, 1);
            sizeAt(BOTH_ENDS, 255, 1);
            take(BOTH_ENDS, 2, NO_SPACE, BOTH_ENDS);
            takeNear(BOTH_ENDS, 255, 2, NO_SPACE, BOTH_ENDS);
            next(layout(0, 3, 250, 6), 0, 0);
            next(layout(0, 3, 250, 6), 250, 250);
        });
        test("Terms: the calls that ask change nothing, for any argument", () -> {
            int[] asked = {0, 1, 2, 254, 255, 256, 257, -1, MIN, MIN + 1, MAX - 1, MAX};
            for (int[] layout : LAYOUTS) {
                check("the calls that ask", layout, x -> askAll(x, asked), true, layout);
            }
        });
    }

    private static boolean askAll(ExtentIndex x, int[] arguments) {
        x.freeBlocks();
        x.extents();
        x.largest();
        for (int argument : arguments) {
            x.free(argument);
            x.next(argument);
            x.sizeAt(argument);
            x.bySize(argument);
            x.atLeast(argument);
        }
        return true;
    }

    // ---- promise 1

    private static void newObject() {
        test("1: all blocks are free", () ->
            dueState("new: ", new ExtentIndex(), ALL_FREE));
        test("1: all 256 of a new object can be taken, and no more", () -> {
            ExtentIndex x = new ExtentIndex();
            due("new: take(257)", x.take(257), BAD_SIZE);
            due("new: take(256)", x.take(256), 0);
            due("new: take(256), take(1)", x.take(1), NO_SPACE);
        });
        test("1: what another object did does not show", () -> {
            ExtentIndex other = new ExtentIndex();
            other.takeAt(0, 256);
            dueState("new beside a full one: ", new ExtentIndex(), ALL_FREE);
            dueState("the full one: ", other, ALL_TAKEN);
        });
    }

    // ---- promise 2

    private static void take() {
        test("2: n not in 1 to 256: BAD_SIZE; nothing changes then", () -> {
            for (int[] layout : LAYOUTS) {
                for (int n : NO_SIZES) {
                    take(layout, n, BAD_SIZE, layout);
                }
            }
        });
        test("2: each n in 1 to 256 is a size, of the disk with all blocks free", () -> {
            for (int n = 1; n <= 256; n++) {
                take(ALL_FREE, n, 0, extent(n, 256 - n));
            }
        });
        test("2: there is none: NO_SPACE; nothing changes then: no free block", () -> {
            for (int n : new int[] {1, 2, 255, 256}) {
                take(ALL_TAKEN, n, NO_SPACE, ALL_TAKEN);
            }
        });
        test("2: there is none: NO_SPACE; nothing changes then: one too few", () -> {
            take(MIXED, 8, 10, 30, 5, 50, 6, 70, 5, 90, 4);
            take(MIXED, 9, NO_SPACE, MIXED);
            for (int size = 1; size < 256; size++) {
                int place = 256 - size;
                take(extent(place, size), size, place, ALL_TAKEN);
                take(extent(place, size), size + 1, NO_SPACE, place, size);
            }
        });
        test("2: there is none: NO_SPACE; nothing changes then: 256 with one block taken", () -> {
            for (int taken : new int[] {0, 1, 128, 254, 255}) {
                take(allBut(taken, 1), 256, NO_SPACE, allBut(taken, 1));
            }
        });
        test("2: side by side: many free blocks apart are not enough", () -> {
            take(layout(0, 100, 101, 155), 156, NO_SPACE, 0, 100, 101, 155);
            take(comb(0), 2, NO_SPACE, comb(0));
            take(comb(1), 2, NO_SPACE, comb(1));
        });
        test("2: the smallest that has at least n: just n, one more, one less", () -> {
            take(layout(10, 6, 30, 4, 50, 5), 5, 50, 10, 6, 30, 4);
            take(layout(10, 6, 30, 4, 50, 7), 5, 10, 15, 1, 30, 4, 50, 7);
            take(layout(10, 7, 30, 4, 50, 6), 5, 50, 10, 7, 30, 4, 55, 1);
            take(layout(10, 4, 30, 3, 50, 200), 5, 50, 10, 4, 30, 3, 55, 195);
            take(layout(0, 2, 250, 1), 1, 250, 0, 2);
        });
        test("2: of equally small ones the one with the smallest place", () -> {
            take(layout(10, 5, 30, 5, 50, 5), 5, 10, 30, 5, 50, 5);
            take(layout(10, 5, 30, 5, 50, 5), 3, 10, 13, 2, 30, 5, 50, 5);
            take(layout(10, 9, 30, 5, 50, 5, 70, 4), 5, 30, 10, 9, 50, 5, 70, 4);
            take(BOTH_ENDS, 1, 0, 255, 1);
            take(comb(0), 1, 0, Arrays.copyOfRange(comb(0), 2, 256));
            take(comb(1), 1, 1, Arrays.copyOfRange(comb(1), 2, 256));
        });
        test("2: the first n blocks, at block 0 and up to block 255", () -> {
            take(layout(0, 3), 2, 0, 2, 1);
            take(layout(253, 3), 2, 253, 255, 1);
            take(layout(253, 3), 3, 253, ALL_TAKEN);
            take(layout(255, 1), 1, 255, ALL_TAKEN);
            take(layout(0, 1), 1, 0, ALL_TAKEN);
        });
    }

    // ---- promise 3

    private static void takeNear() {
        test("3: near not in 0 to 255: BAD_BLOCK; nothing changes then", () -> {
            for (int[] layout : LAYOUTS) {
                for (int near : NO_BLOCKS) {
                    takeNear(layout, near, 1, BAD_BLOCK, layout);
                    takeNear(layout, near, 256, BAD_BLOCK, layout);
                }
            }
        });
        test("3: each near in 0 to 255 is a block, free or taken", () -> {
            for (int near = 0; near < 256; near++) {
                takeNear(ALL_FREE, near, 1, 0, 1, 255);
                takeNear(layout(255, 1), near, 1, 255, ALL_TAKEN);
                takeNear(layout(0, 1), near, 1, 0, ALL_TAKEN);
            }
        });
        test("3: n not in 1 to 256: BAD_SIZE; nothing changes then", () -> {
            for (int[] layout : LAYOUTS) {
                for (int n : NO_SIZES) {
                    takeNear(layout, 0, n, BAD_SIZE, layout);
                    takeNear(layout, 255, n, BAD_SIZE, layout);
                }
            }
        });
        test("3: each n in 1 to 256 is a size, whatever near is", () -> {
            for (int n = 1; n <= 256; n++) {
                takeNear(ALL_FREE, 0, n, 0, extent(n, 256 - n));
                takeNear(ALL_FREE, 255, n, 0, extent(n, 256 - n));
            }
        });
        test("3: NO_SPACE; nothing changes then: no free block", () -> {
            for (int near : new int[] {0, 1, 128, 254, 255}) {
                takeNear(ALL_TAKEN, near, 1, NO_SPACE, ALL_TAKEN);
                takeNear(ALL_TAKEN, near, 256, NO_SPACE, ALL_TAKEN);
            }
        });
        test("3: NO_SPACE; nothing changes then: one too few", () -> {
            takeNear(MIXED, 200, 8, 10, 30, 5, 50, 6, 70, 5, 90, 4);
            takeNear(MIXED, 10, 9, NO_SPACE, MIXED);
            takeNear(allBut(0, 1), 1, 256, NO_SPACE, 1, 255);
            takeNear(allBut(255, 1), 0, 256, NO_SPACE, 0, 255);
            takeNear(comb(0), 100, 2, NO_SPACE, comb(0));
            takeNear(layout(255, 1), 255, 2, NO_SPACE, 255, 1);
        });
        test("3: of all that have at least n: just n, and one less though it is nearer", () -> {
            takeNear(layout(10, 4, 30, 5), 10, 5, 30, 10, 4);
            takeNear(layout(10, 5, 30, 4), 30, 5, 10, 30, 4);
            takeNear(layout(10, 5, 30, 4), 30, 4, 30, 10, 5);
            takeNear(layout(10, 9, 30, 5), 11, 5, 10, 15, 4, 30, 5);
        });
        test("3: nearest counts from the place, not from the end or the inside", () -> {
            takeNear(layout(20, 50, 72, 4), 60, 1, 72, 20, 50, 73, 3);
            takeNear(layout(20, 50, 95, 4), 69, 1, 95, 20, 50, 96, 3);
            takeNear(layout(20, 50, 120, 4), 69, 1, 20, 21, 49, 120, 4);
        });
        test("3: nearest, one block less or more off than the other", () -> {
            takeNear(layout(10, 2, 31, 2), 20, 1, 10, 11, 1, 31, 2);
            takeNear(layout(10, 2, 31, 2), 21, 1, 31, 10, 2, 32, 1);
            takeNear(layout(0, 1, 255, 1), 127, 1, 0, 255, 1);
            takeNear(layout(0, 1, 255, 1), 128, 1, 255, 0, 1);
        });
        test("3: of two equally near the one with the smaller place, whatever their sizes", () -> {
            takeNear(layout(10, 2, 30, 2), 20, 1, 10, 11, 1, 30, 2);
            takeNear(layout(10, 2, 30, 9), 20, 2, 10, 30, 9);
            takeNear(layout(10, 9, 30, 2), 20, 2, 10, 12, 7, 30, 2);
            takeNear(layout(10, 1, 30, 2), 20, 2, 30, 10, 1);
            takeNear(layout(0, 1, 254, 1), 127, 1, 0, 254, 1);
            takeNear(layout(1, 1, 255, 1), 128, 1, 1, 255, 1);
            takeNear(layout(99, 1, 101, 1), 100, 1, 99, 101, 1);
        });
        test("3: near is itself a place", () -> {
            takeNear(layout(10, 2, 13, 2), 13, 2, 13, 10, 2);
            takeNear(BOTH_ENDS, 0, 1, 0, 255, 1);
            takeNear(BOTH_ENDS, 255, 1, 255, 0, 1);
        });
        test("3: nearness does not wrap around from block 255 to block 0", () -> {
            takeNear(layout(0, 1, 100, 1), 255, 1, 100, 0, 1);
            takeNear(layout(100, 1, 255, 1), 0, 1, 100, 255, 1);
        });
        test("3: the first n blocks, at block 0 and up to block 255", () -> {
            takeNear(layout(0, 3), 255, 2, 0, 2, 1);
            takeNear(layout(253, 3), 255, 2, 253, 255, 1);
            takeNear(layout(253, 3), 0, 3, 253, ALL_TAKEN);
        });
    }

    // ---- promise 4

    private static void takeAt() {
        test("4: from not in 0 to 255: BAD_BLOCK; nothing changes then", () -> {
            for (int[] layout : LAYOUTS) {
                for (int from : NO_BLOCKS) {
                    takeAt(layout, from, 1, BAD_BLOCK, layout);
                    takeAt(layout, from, 256, BAD_BLOCK, layout);
                }
            }
        });
        test("4: each from in 0 to 255 is a block", () -> {
            for (int from = 0; from < 256; from++) {
                int[] after = allBut(from, 1);
                takeAt(ALL_FREE, from, 1, after.length / 2, after);
            }
        });
        test("4: n not in 1 to 256: BAD_SIZE; nothing changes then", () -> {
            for (int[] layout : LAYOUTS) {
                for (int n : NO_SIZES) {
                    takeAt(layout, 0, n, BAD_SIZE, layout);
                    takeAt(layout, 128, n, BAD_SIZE, layout);
                    takeAt(layout, 255, n, BAD_SIZE, layout);
                }
            }
        });
        test("4: each n in 1 to 256 is a size at block 0", () -> {
            for (int n = 1; n <= 256; n++) {
                takeAt(ALL_FREE, 0, n, n == 256 ? 0 : 1, extent(n, 256 - n));
            }
        });
        test("4: they would go beyond block 255: BAD_SIZE; nothing changes then", () -> {
            for (int from = 1; from < 256; from++) {
                int most = 256 - from;
                takeAt(ALL_FREE, from, most, 1, 0, from);
                takeAt(ALL_FREE, from, most + 1, BAD_SIZE, ALL_FREE);
                takeAt(ALL_FREE, from, 256, BAD_SIZE, ALL_FREE);
            }
        });
        test("4: one of them is taken: TAKEN; nothing changes then: first, last, inside", () -> {
            takeAt(allBut(100, 1), 100, 1, TAKEN, allBut(100, 1));
            takeAt(allBut(100, 1), 100, 5, TAKEN, allBut(100, 1));
            takeAt(allBut(100, 1), 96, 5, TAKEN, allBut(100, 1));
            takeAt(allBut(100, 1), 98, 5, TAKEN, allBut(100, 1));
            takeAt(allBut(100, 1), 0, 256, TAKEN, allBut(100, 1));
        });
        test("4: TAKEN: only just before or just behind them is not one of them", () -> {
            takeAt(allBut(100, 1), 101, 5, 2, 0, 100, 106, 150);
            takeAt(allBut(100, 1), 95, 5, 2, 0, 95, 101, 155);
            takeAt(layout(50, 3), 50, 3, 0, ALL_TAKEN);
            takeAt(layout(50, 3), 49, 3, TAKEN, 50, 3);
            takeAt(layout(50, 3), 51, 3, TAKEN, 50, 3);
            takeAt(layout(50, 3), 49, 5, TAKEN, 50, 3);
        });
        test("4: TAKEN: block 0 and block 255", () -> {
            takeAt(allBut(0, 1), 0, 1, TAKEN, 1, 255);
            takeAt(allBut(0, 1), 0, 256, TAKEN, 1, 255);
            takeAt(allBut(0, 1), 1, 255, 0, ALL_TAKEN);
            takeAt(allBut(255, 1), 255, 1, TAKEN, 0, 255);
            takeAt(allBut(255, 1), 0, 256, TAKEN, 0, 255);
            takeAt(allBut(255, 1), 0, 255, 0, ALL_TAKEN);
        });
        test("4: TAKEN: no free block", () -> {
            for (int from = 0; from < 256; from++) {
                takeAt(ALL_TAKEN, from, 1, TAKEN, ALL_TAKEN);
                takeAt(ALL_TAKEN, from, 256 - from, TAKEN, ALL_TAKEN);
            }
        });
        test("4: how many extents there are now: one more, as many, one less, none", () -> {
            takeAt(layout(10, 5, 30, 5), 11, 3, 3, 10, 1, 14, 1, 30, 5);
            takeAt(layout(10, 5, 30, 5), 10, 4, 2, 14, 1, 30, 5);
            takeAt(layout(10, 5, 30, 5), 11, 4, 2, 10, 1, 30, 5);
            takeAt(layout(10, 5, 30, 5), 10, 5, 1, 30, 5);
            takeAt(layout(30, 5), 30, 5, 0, ALL_TAKEN);
            takeAt(ALL_FREE, 0, 256, 0, ALL_TAKEN);
            takeAt(ALL_FREE, 1, 254, 2, BOTH_ENDS);
            takeAt(comb(0), 254, 1, 127, Arrays.copyOfRange(comb(0), 0, 254));
        });
    }

    // ---- promise 5

    private static void give() {
        test("5: BAD_BLOCK as for takeAt; nothing changes then", () -> {
            for (int[] layout : LAYOUTS) {
                for (int from : NO_BLOCKS) {
                    give(layout, from, 1, BAD_BLOCK, layout);
                    give(layout, from, 256, BAD_BLOCK, layout);
                }
            }
        });
        test("5: each from in 0 to 255 is a block", () -> {
            for (int from = 0; from < 256; from++) {
                give(ALL_TAKEN, from, 1, 1, from, 1);
            }
        });
        test("5: BAD_SIZE as for takeAt, n not in 1 to 256; nothing changes then", () -> {
            for (int[] layout : LAYOUTS) {
                for (int n : NO_SIZES) {
                    give(layout, 0, n, BAD_SIZE, layout);
                    give(layout, 128, n, BAD_SIZE, layout);
                    give(layout, 255, n, BAD_SIZE, layout);
                }
            }
        });
        test("5: each n in 1 to 256 is a size at block 0", () -> {
            for (int n = 1; n <= 256; n++) {
                give(ALL_TAKEN, 0, n, n, 0, n);
            }
        });
        test("5: BAD_SIZE as for takeAt, beyond block 255; nothing changes then", () -> {
            for (int from = 1; from < 256; from++) {
                int most = 256 - from;
                give(ALL_TAKEN, from, most, most, from, most);
                give(ALL_TAKEN, from, most + 1, BAD_SIZE, ALL_TAKEN);
                give(ALL_TAKEN, from, 256, BAD_SIZE, ALL_TAKEN);
            }
        });
        test("5: one of them is free: FREE; nothing changes then: first, last, inside", () -> {
            give(layout(100, 1), 100, 1, FREE, 100, 1);
            give(layout(100, 1), 100, 5, FREE, 100, 1);
            give(layout(100, 1), 96, 5, FREE, 100, 1);
            give(layout(100, 1), 98, 5, FREE, 100, 1);
            give(layout(100, 1), 0, 256, FREE, 100, 1);
        });
        test("5: FREE: only just before or just behind them is not one of them", () -> {
            give(layout(100, 1), 101, 5, 6, 100, 6);
            give(layout(100, 1), 95, 5, 6, 95, 6);
            give(allBut(50, 3), 50, 3, 256, ALL_FREE);
            give(allBut(50, 3), 49, 3, FREE, allBut(50, 3));
            give(allBut(50, 3), 51, 3, FREE, allBut(50, 3));
            give(allBut(50, 3), 49, 5, FREE, allBut(50, 3));
        });
        test("5: FREE: block 0 and block 255", () -> {
            give(layout(0, 1), 0, 1, FREE, 0, 1);
            give(layout(0, 1), 0, 256, FREE, 0, 1);
            give(layout(0, 1), 1, 255, 256, ALL_FREE);
            give(layout(255, 1), 255, 1, FREE, 255, 1);
            give(layout(255, 1), 0, 256, FREE, 255, 1);
            give(layout(255, 1), 0, 255, 256, ALL_FREE);
        });
        test("5: FREE: all blocks free", () -> {
            for (int from = 0; from < 256; from++) {
                give(ALL_FREE, from, 1, FREE, ALL_FREE);
                give(ALL_FREE, from, 256 - from, FREE, ALL_FREE);
            }
        });
        test("5: how many blocks the extent has now: alone, grown before, behind, on both sides", () -> {
            give(layout(10, 5, 30, 5), 20, 3, 3, 10, 5, 20, 3, 30, 5);
            give(layout(10, 5, 30, 5), 16, 13, 13, 10, 5, 16, 13, 30, 5);
            give(layout(10, 5, 30, 5), 15, 14, 19, 10, 19, 30, 5);
            give(layout(10, 5, 30, 5), 16, 14, 19, 10, 5, 16, 19);
            give(layout(10, 5, 30, 5), 15, 15, 25, 10, 25);
            give(ALL_TAKEN, 0, 256, 256, ALL_FREE);
        });
        test("5: the extent does not wrap around from block 255 to block 0", () -> {
            give(layout(255, 1), 0, 1, 1, BOTH_ENDS);
            give(layout(0, 1), 255, 1, 1, BOTH_ENDS);
        });
        test("5: what was taken by one call may be given back in parts, or with its neighbours", () -> {
            check("take(9), take(9), give(8, 2)", ALL_FREE, x -> {
                x.take(9);
                x.take(9);
                return x.give(8, 2);
            }, 2, 8, 2, 18, 238);
        });
    }

    // ---- promise 6

    private static void takePieces() {
        test("6: n not in 1 to 256: BAD_SIZE, nothing changes", () -> {
            for (int[] layout : LAYOUTS) {
                for (int n : NO_SIZES) {
                    takePieces(layout, n, BAD_SIZE, layout);
                }
            }
        });
        test("6: each n in 1 to 256 is a size, of the disk with all blocks free", () -> {
            for (int n = 1; n <= 256; n++) {
                takePieces(ALL_FREE, n, n, extent(n, 256 - n));
            }
        });
        test("6: as long as some block is free: with none it takes 0", () -> {
            for (int n : new int[] {1, 2, 255, 256}) {
                takePieces(ALL_TAKEN, n, 0, ALL_TAKEN);
            }
        });
        test("6: up to n: one less than are free, just as many, one more, the most", () -> {
            takePieces(MIXED, 27, 27, 93, 1);
            takePieces(MIXED, 28, 28, ALL_TAKEN);
            takePieces(MIXED, 29, 28, ALL_TAKEN);
            takePieces(MIXED, 256, 28, ALL_TAKEN);
            takePieces(BOTH_ENDS, 3, 2, ALL_TAKEN);
            takePieces(layout(0, 255), 256, 255, ALL_TAKEN);
            takePieces(layout(1, 255), 256, 255, ALL_TAKEN);
        });
        test("6: as many as the largest has, but no more than are still wanted", () -> {
            takePieces(MIXED, 7, 7, 17, 1, 30, 5, 50, 6, 70, 5, 90, 4);
            takePieces(MIXED, 8, 8, 30, 5, 50, 6, 70, 5, 90, 4);
            takePieces(MIXED, 9, 9, 30, 5, 51, 5, 70, 5, 90, 4);
            takePieces(MIXED, 14, 14, 30, 5, 70, 5, 90, 4);
            takePieces(MIXED, 15, 15, 31, 4, 70, 5, 90, 4);
        });
        test("6: the largest, by one block", () -> {
            takePieces(layout(0, 5, 250, 6), 1, 1, 0, 5, 251, 5);
            takePieces(layout(0, 6, 250, 5), 1, 1, 1, 5, 250, 5);
            takePieces(layout(0, 5, 100, 6, 250, 5), 7, 7, 1, 4, 250, 5);
        });
        test("6: of equally large ones the one with the smallest place", () -> {
            takePieces(layout(10, 5, 30, 5, 50, 5), 2, 2, 12, 3, 30, 5, 50, 5);
            takePieces(layout(10, 5, 30, 5, 50, 5), 5, 5, 30, 5, 50, 5);
            takePieces(layout(10, 5, 30, 5, 50, 5), 6, 6, 31, 4, 50, 5);
            takePieces(layout(10, 4, 30, 5, 50, 5), 6, 6, 10, 4, 51, 4);
            takePieces(BOTH_ENDS, 1, 1, 255, 1);
        });
        test("6: a largest one is emptied before the next, though it gets smaller on the way", () -> {
            takePieces(layout(10, 3, 30, 3), 2, 2, 12, 1, 30, 3);
            takePieces(layout(10, 3, 30, 3), 4, 4, 31, 2);
            takePieces(layout(10, 4, 30, 3), 3, 3, 13, 1, 30, 3);
        });
        test("6: the most pieces there can be", () -> {
            for (int n = 1; n <= 128; n++) {
                takePieces(comb(0), n, n, Arrays.copyOfRange(comb(0), 2 * n, 256));
            }
            takePieces(comb(0), 129, 128, ALL_TAKEN);
            takePieces(comb(1), 127, 127, 255, 1);
            takePieces(comb(1), 128, 128, ALL_TAKEN);
            takePieces(comb(1), 256, 128, ALL_TAKEN);
        });
    }

    // ---- promise 7

    private static void clear() {
        test("7: all blocks are free, whatever was free before", () -> {
            for (int[] layout : LAYOUTS) {
                check("clear()", layout, x -> clearOf(x, 1), true, ALL_FREE);
            }
            check("clear()", comb(0), x -> clearOf(x, 1), true, ALL_FREE);
            check("clear()", comb(1), x -> clearOf(x, 1), true, ALL_FREE);
        });
        test("7: a second time", () ->
            check("clear(), clear()", MIXED, x -> clearOf(x, 2), true, ALL_FREE));
        test("7: a cleared disk is taken from as a new one is", () -> {
            for (int[] layout : LAYOUTS) {
                check("clear(), take(256)", layout, x -> {
                    x.clear();
                    return x.take(256);
                }, 0, ALL_TAKEN);
                check("clear(), give(0, 1)", layout, x -> {
                    x.clear();
                    return x.give(0, 1);
                }, FREE, ALL_FREE);
            }
        });
    }

    private static boolean clearOf(ExtentIndex x, int times) {
        for (int i = 0; i < times; i++) {
            x.clear();
        }
        return true;
    }

    // ---- promise 8

    private static void free() {
        test("8: false if it is not in 0 to 255", () -> {
            for (int[] layout : LAYOUTS) {
                for (int block : NO_BLOCKS) {
                    free(layout, block, false);
                }
            }
        });
        test("8: each block of the disk with all free, and with none", () -> {
            for (int block = 0; block < 256; block++) {
                free(ALL_FREE, block, true);
                free(ALL_TAKEN, block, false);
            }
        });
        test("8: block 0 and block 255, and on both sides of an extent's ends", () -> {
            free(BOTH_ENDS, 0, true);
            free(BOTH_ENDS, 1, false);
            free(BOTH_ENDS, 254, false);
            free(BOTH_ENDS, 255, true);
            free(layout(1, 254), 0, false);
            free(layout(1, 254), 1, true);
            free(layout(1, 254), 254, true);
            free(layout(1, 254), 255, false);
        });
    }

    // ---- promises 9, 10 and 11

    private static void counts() {
        test("9: no block free, one, all but one, all", () -> {
            freeBlocks(ALL_TAKEN, 0);
            freeBlocks(layout(0, 1), 1);
            freeBlocks(layout(255, 1), 1);
            freeBlocks(layout(1, 255), 255);
            freeBlocks(layout(0, 255), 255);
            freeBlocks(ALL_FREE, 256);
            freeBlocks(comb(1), 128);
        });
        test("10: no extent, one of one block, one of all", () -> {
            extents(ALL_TAKEN, 0);
            extents(layout(0, 1), 1);
            extents(layout(255, 1), 1);
            extents(ALL_FREE, 1);
        });
        test("10: the most extents there can be", () -> {
            extents(comb(0), 128);
            extents(comb(1), 128);
        });
        test("11: 0 if none is free", () -> largest(ALL_TAKEN, 0));
        test("11: one block, at block 0 and at block 255; all blocks", () -> {
            largest(layout(0, 1), 1);
            largest(layout(255, 1), 1);
            largest(layout(0, 255), 255);
            largest(layout(1, 255), 255);
            largest(ALL_FREE, 256);
        });
        test("11: the largest is the first, the last, one of two, by one block", () -> {
            largest(layout(0, 5, 100, 4, 250, 4), 5);
            largest(layout(0, 4, 100, 5, 250, 4), 5);
            largest(layout(0, 4, 100, 4, 251, 5), 5);
            largest(layout(0, 5, 100, 4, 251, 5), 5);
            largest(comb(0), 1);
        });
    }

    // ---- promise 12

    private static void next() {
        test("12: BAD_BLOCK", () -> {
            for (int[] layout : LAYOUTS) {
                for (int block : NO_BLOCKS) {
                    next(layout, block, BAD_BLOCK);
                }
            }
        });
        test("12: NONE if there is none: no free block", () -> {
            for (int block = 0; block < 256; block++) {
                next(ALL_TAKEN, block, NONE);
            }
        });
        test("12: NONE if there is none: all blocks free, behind the one place", () -> {
            next(ALL_FREE, 0, 0);
            for (int block = 1; block < 256; block++) {
                next(ALL_FREE, block, NONE);
            }
        });
        test("12: NONE if there is none: it does not go on from block 255 to block 0", () -> {
            next(layout(0, 1), 1, NONE);
            next(layout(0, 1), 255, NONE);
            next(layout(10, 5), 15, NONE);
        });
        test("12: at or behind: just before the place, at it, just behind it", () -> {
            next(layout(10, 5, 30, 5), 9, 10);
            next(layout(10, 5, 30, 5), 10, 10);
            next(layout(10, 5, 30, 5), 11, 30);
            next(layout(10, 5, 30, 5), 14, 30);
            next(layout(10, 5, 30, 5), 15, 30);
            next(layout(10, 5, 30, 5), 29, 30);
            next(layout(10, 5, 30, 5), 30, 30);
            next(layout(10, 5, 30, 5), 31, NONE);
        });
        test("12: block 0 and block 255", () -> {
            next(BOTH_ENDS, 0, 0);
            next(BOTH_ENDS, 1, 255);
            next(BOTH_ENDS, 254, 255);
            next(BOTH_ENDS, 255, 255);
            next(layout(254, 2), 254, 254);
            next(layout(254, 2), 255, NONE);
            next(layout(255, 1), 0, 255);
        });
    }

    // ---- promise 13

    private static void sizeAt() {
        test("13: BAD_BLOCK", () -> {
            for (int[] layout : LAYOUTS) {
                for (int block : NO_BLOCKS) {
                    sizeAt(layout, block, BAD_BLOCK);
                }
            }
        });
        test("13: 0 if it is taken: each block of the disk with no free block", () -> {
            for (int block = 0; block < 256; block++) {
                sizeAt(ALL_TAKEN, block, 0);
            }
        });
        test("13: each block of the disk with all blocks free", () -> {
            for (int block = 0; block < 256; block++) {
                sizeAt(ALL_FREE, block, 256);
            }
        });
        test("13: just before an extent, its first block, inside, its last block, just behind", () -> {
            sizeAt(layout(10, 5, 16, 3), 9, 0);
            sizeAt(layout(10, 5, 16, 3), 10, 5);
            sizeAt(layout(10, 5, 16, 3), 12, 5);
            sizeAt(layout(10, 5, 16, 3), 14, 5);
            sizeAt(layout(10, 5, 16, 3), 15, 0);
            sizeAt(layout(10, 5, 16, 3), 16, 3);
        });
        test("13: block 0 and block 255", () -> {
            sizeAt(layout(0, 3, 252, 4), 0, 3);
            sizeAt(layout(0, 3, 252, 4), 255, 4);
            sizeAt(layout(1, 254), 0, 0);
            sizeAt(layout(1, 254), 255, 0);
            sizeAt(layout(0, 1), 0, 1);
            sizeAt(layout(255, 1), 255, 1);
        });
    }

    // ---- promise 14

    private static void bySize() {
        test("14: from 0: NONE for each i below", () -> {
            for (int[] layout : LAYOUTS) {
                for (int i : new int[] {-1, -2, -255, -256, -257, MIN, MIN + 1}) {
                    bySize(layout, i, NONE);
                }
            }
        });
        test("14: NONE if there is none: the last i, and one more", () -> {
            bySize(MIXED, 4, 10);
            bySize(MIXED, 5, NONE);
            bySize(BOTH_ENDS, 1, 255);
            bySize(BOTH_ENDS, 2, NONE);
            bySize(comb(0), 127, 254);
            bySize(comb(0), 128, NONE);
            bySize(comb(1), 127, 255);
            bySize(comb(1), 128, NONE);
        });
        test("14: NONE if there is none: any i beyond", () -> {
            for (int[] layout : LAYOUTS) {
                for (int i : new int[] {5, 127, 128, 255, 256, 257, 65536, MAX - 1, MAX}) {
                    bySize(layout, i, NONE);
                }
            }
            bySize(MIXED, 256, NONE);
        });
        test("14: NONE if there is none: no free block", () -> {
            bySize(ALL_TAKEN, 0, NONE);
            bySize(ALL_TAKEN, 1, NONE);
        });
        test("14: all blocks free", () -> {
            bySize(ALL_FREE, 0, 0);
            bySize(ALL_FREE, 1, NONE);
        });
        test("14: smaller ones first, by one block", () -> {
            bySize(layout(0, 6, 100, 4, 251, 5), 0, 100);
            bySize(layout(0, 6, 100, 4, 251, 5), 1, 251);
            bySize(layout(0, 6, 100, 4, 251, 5), 2, 0);
            bySize(layout(0, 200, 255, 1), 0, 255);
            bySize(layout(0, 200, 255, 1), 1, 0);
        });
        test("14: of equal ones the smaller place first", () -> {
            int[] equal = {0, 3, 20, 2, 40, 3, 60, 2, 80, 4, 253, 3};
            int[] places = {20, 60, 0, 40, 253, 80};
            for (int i = 0; i < places.length; i++) {
                bySize(equal, i, places[i]);
            }
            for (int i = 0; i < 128; i++) {
                bySize(comb(0), i, 2 * i);
                bySize(comb(1), i, 2 * i + 1);
            }
        });
    }

    // ---- promise 15

    private static void atLeast() {
        test("15: each n below 1 counts all extents", () -> {
            for (int[] layout : LAYOUTS) {
                for (int n : new int[] {1, 0, -1, -256, MIN + 1, MIN}) {
                    atLeast(layout, n, layout.length / 2);
                }
            }
            atLeast(comb(0), 0, 128);
        });
        test("15: each n above 256 counts none", () -> {
            for (int[] layout : LAYOUTS) {
                for (int n : new int[] {257, 258, 65537, MAX - 1, MAX}) {
                    atLeast(layout, n, 0);
                }
            }
        });
        test("15: at least n: one less, just n, one more", () -> {
            atLeast(MIXED, 3, 5);
            atLeast(MIXED, 4, 5);
            atLeast(MIXED, 5, 4);
            atLeast(MIXED, 6, 2);
            atLeast(MIXED, 7, 1);
            atLeast(MIXED, 8, 1);
            atLeast(MIXED, 9, 0);
            atLeast(comb(1), 1, 128);
            atLeast(comb(1), 2, 0);
        });
        test("15: no free block", () -> {
            for (int n : new int[] {1, 2, 255, 256}) {
                atLeast(ALL_TAKEN, n, 0);
            }
        });
        test("15: all blocks free, and all but one", () -> {
            atLeast(ALL_FREE, 255, 1);
            atLeast(ALL_FREE, 256, 1);
            atLeast(layout(0, 255), 255, 1);
            atLeast(layout(0, 255), 256, 0);
            atLeast(layout(1, 255), 256, 0);
        });
    }

    // ---- promise 16

    private static void order() {
        test("16: takeNear: BAD_BLOCK before BAD_SIZE", () -> {
            for (int near : NO_BLOCKS) {
                for (int n : NO_SIZES) {
                    takeNear(ALL_FREE, near, n, BAD_BLOCK, ALL_FREE);
                    takeNear(ALL_TAKEN, near, n, BAD_BLOCK, ALL_TAKEN);
                }
            }
        });
        test("16: takeNear: BAD_BLOCK before NO_SPACE", () -> {
            for (int near : NO_BLOCKS) {
                takeNear(ALL_TAKEN, near, 1, BAD_BLOCK, ALL_TAKEN);
                takeNear(MIXED, near, 9, BAD_BLOCK, MIXED);
            }
        });
        test("16: takeNear: BAD_SIZE before NO_SPACE", () -> {
            for (int n : NO_SIZES) {
                takeNear(ALL_TAKEN, 0, n, BAD_SIZE, ALL_TAKEN);
                takeNear(MIXED, 255, n, BAD_SIZE, MIXED);
            }
        });
        test("16: takeAt: BAD_BLOCK before BAD_SIZE", () -> {
            for (int from : NO_BLOCKS) {
                for (int n : NO_SIZES) {
                    takeAt(ALL_FREE, from, n, BAD_BLOCK, ALL_FREE);
                    takeAt(ALL_TAKEN, from, n, BAD_BLOCK, ALL_TAKEN);
                }
                takeAt(ALL_FREE, from, 256, BAD_BLOCK, ALL_FREE);
            }
        });
        test("16: takeAt: BAD_BLOCK before TAKEN", () -> {
            for (int from : NO_BLOCKS) {
                takeAt(ALL_TAKEN, from, 1, BAD_BLOCK, ALL_TAKEN);
                takeAt(ALL_TAKEN, from, 2, BAD_BLOCK, ALL_TAKEN);
            }
        });
        test("16: takeAt: BAD_SIZE before TAKEN, also beyond block 255", () -> {
            for (int n : NO_SIZES) {
                takeAt(ALL_TAKEN, 0, n, BAD_SIZE, ALL_TAKEN);
                takeAt(ALL_TAKEN, 255, n, BAD_SIZE, ALL_TAKEN);
            }
            for (int from = 1; from < 256; from++) {
                takeAt(ALL_TAKEN, from, 257 - from, BAD_SIZE, ALL_TAKEN);
                takeAt(ALL_TAKEN, from, 256, BAD_SIZE, ALL_TAKEN);
            }
        });
        test("16: give: BAD_BLOCK before BAD_SIZE", () -> {
            for (int from : NO_BLOCKS) {
                for (int n : NO_SIZES) {
                    give(ALL_FREE, from, n, BAD_BLOCK, ALL_FREE);
                    give(ALL_TAKEN, from, n, BAD_BLOCK, ALL_TAKEN);
                }
                give(ALL_TAKEN, from, 256, BAD_BLOCK, ALL_TAKEN);
            }
        });
        test("16: give: BAD_BLOCK before FREE", () -> {
            for (int from : NO_BLOCKS) {
                give(ALL_FREE, from, 1, BAD_BLOCK, ALL_FREE);
                give(ALL_FREE, from, 2, BAD_BLOCK, ALL_FREE);
            }
        });
        test("16: give: BAD_SIZE before FREE, also beyond block 255", () -> {
            for (int n : NO_SIZES) {
                give(ALL_FREE, 0, n, BAD_SIZE, ALL_FREE);
                give(ALL_FREE, 255, n, BAD_SIZE, ALL_FREE);
            }
            for (int from = 1; from < 256; from++) {
                give(ALL_FREE, from, 257 - from, BAD_SIZE, ALL_FREE);
                give(ALL_FREE, from, 256, BAD_SIZE, ALL_FREE);
            }
        });
    }

    // ---- the 512 calls of an object

    private static void calls() {
        test("What it is: 511 refused calls change nothing, and the 512th is answered", () -> {
            ExtentIndex x = new ExtentIndex();
            for (int i = 0; i < 511; i++) {
                due("give(0, 1) as call " + (i + 1), x.give(0, 1), FREE);
            }
            due("take(256) as call 512", x.take(256), 0);
        });
        test("What it is: the disk is filled block by block and given back within 512 calls", () -> {
            ExtentIndex x = new ExtentIndex();
            for (int i = 0; i < 256; i++) {
                due("take(1) as call " + (i + 1), x.take(1), i);
            }
            for (int i = 0; i < 256; i++) {
                due("give(" + (255 - i) + ", 1) as call " + (257 + i), x.give(255 - i, 1), i + 1);
            }
        });
    }
}

import java.util.Arrays;

/** Each promise of the document by hand: ordinary inputs, the edges it names, and wrong inputs. */
public final class ExtentIndexPromises {
    private static final int[] BAD_BLOCKS = {-1, 256, 257, -256, Integer.MIN_VALUE, Integer.MAX_VALUE};
    private static final int[] BAD_SIZES = {0, -1, 257, -256, Integer.MIN_VALUE, Integer.MAX_VALUE};

    private static int wrong = 0;

    public static void main(String[] args) {
        constants();
        newObject();
        take();
        takeNear();
        takeAt();
        give();
        takePieces();
        clear();
        free();
        freeBlocks();
        extents();
        largest();
        next();
        sizeAt();
        bySize();
        atLeast();
        orderOfTests();
        readersChangeNothing();
        objectsAreApart();
        lastOfTheCalls();
        System.out.println(wrong == 0 ? "all promises hold" : wrong + " answers are not as due");
        if (wrong != 0) {
            System.exit(1);
        }
    }

    private static void due(String call, Object got, Object want) {
        if (!want.equals(got)) {
            wrong++;
            System.out.println(call + " answered " + got + ", due is " + want);
        }
    }

    /** A disk whose free extents are just these, told as place, size, place, size and so on. */
    private static ExtentIndex disk(int... extents) {
        ExtentIndex x = new ExtentIndex();
        x.takeAt(0, 256);
        for (int i = 0; i < extents.length; i += 2) {
            x.give(extents[i], extents[i + 1]);
        }
        return x;
    }

    /** What is free, block by block. It costs 256 of the 512 calls: once for an object. */
    private static void dueLayout(String after, ExtentIndex x, int... extents) {
        boolean[] want = new boolean[256];
        for (int i = 0; i < extents.length; i += 2) {
            Arrays.fill(want, extents[i], extents[i] + extents[i + 1], true);
        }
        for (int block = 0; block < 256; block++) {
            due("after " + after + " free(" + block + ")", x.free(block), want[block]);
        }
    }

    private static void constants() {
        due("BAD_BLOCK", ExtentIndex.BAD_BLOCK, -1);
        due("BAD_SIZE", ExtentIndex.BAD_SIZE, -2);
        due("NO_SPACE", ExtentIndex.NO_SPACE, -3);
        due("TAKEN", ExtentIndex.TAKEN, -4);
        due("FREE", ExtentIndex.FREE, -5);
        due("NONE", ExtentIndex.NONE, -6);
    }

    private static void newObject() {
        ExtentIndex x = new ExtentIndex();
        due("1: freeBlocks()", x.freeBlocks(), 256);
        due("1: extents()", x.extents(), 1);
        due("1: largest()", x.largest(), 256);
        due("1: next(0)", x.next(0), 0);
        due("1: sizeAt(255)", x.sizeAt(255), 256);
        due("1: bySize(0)", x.bySize(0), 0);
        dueLayout("1: new", x, 0, 256);
    }

    private static void take() {
        ExtentIndex x = disk(10, 8, 30, 5, 50, 6, 70, 5, 90, 4);
        due("2: take(5) of two equal ones", x.take(5), 30);
        due("2: take(5) again", x.take(5), 70);
        due("2: take(5) with none left of just 5", x.take(5), 50);
        due("2: take(1) of the rest of one", x.take(1), 55);
        due("2: take(7) of the largest", x.take(7), 10);
        due("2: take(5) with none", x.take(5), -3);
        due("2: take(256) with none", x.take(256), -3);
        for (int n : BAD_SIZES) {
            due("2: take(" + n + ")", x.take(n), -2);
        }
        dueLayout("2: takes", x, 17, 1, 90, 4);

        ExtentIndex whole = new ExtentIndex();
        due("2: take(256)", whole.take(256), 0);
        due("2: take(1) on a full disk", whole.take(1), -3);
        due("2: take(257) on a full disk", whole.take(257), -2);
        dueLayout("2: take(256)", whole);

        ExtentIndex most = new ExtentIndex();
        due("2: take(255)", most.take(255), 0);
        due("2: take(2) with one free", most.take(2), -3);
        due("2: take(1) of the last block", most.take(1), 255);
        due("2: freeBlocks()", most.freeBlocks(), 0);

        ExtentIndex apart = disk(0, 100, 101, 100);
        due("2: take(101) where no 101 are side by side", apart.take(101), -3);
        dueLayout("2: NO_SPACE", apart, 0, 100, 101, 100);
    }

    private static void takeNear() {
        ExtentIndex x = disk(10, 5, 30, 5, 50, 20, 100, 3);
        due("3: takeNear(20, 5) between two", x.takeNear(20, 5), 10);
        due("3: takeNear(41, 2)", x.takeNear(41, 2), 50);
        due("3: takeNear(41, 2) between 30 and 52", x.takeNear(41, 2), 30);
        due("3: takeNear(69, 1) is by place, not by end", x.takeNear(69, 1), 52);
        due("3: takeNear(85, 1)", x.takeNear(85, 1), 100);
        due("3: takeNear(101, 3) with too few there", x.takeNear(101, 3), 53);
        due("3: takeNear(0, 15) with none", x.takeNear(0, 15), -3);
        for (int n : BAD_SIZES) {
            due("3: takeNear(3, " + n + ")", x.takeNear(3, n), -2);
        }
        for (int near : BAD_BLOCKS) {
            due("3: takeNear(" + near + ", 1)", x.takeNear(near, 1), -1);
        }
        dueLayout("3: takes", x, 32, 3, 56, 14, 101, 2);

        ExtentIndex y = disk(0, 1, 255, 1);
        due("3: takeNear(128, 1)", y.takeNear(128, 1), 255);
        due("3: takeNear(255, 1)", y.takeNear(255, 1), 0);
        due("3: takeNear(255, 1) on a full disk", y.takeNear(255, 1), -3);
        ExtentIndex z = disk(255, 1);
        due("3: takeNear(0, 1)", z.takeNear(0, 1), 255);
        ExtentIndex whole = new ExtentIndex();
        due("3: takeNear(255, 256)", whole.takeNear(255, 256), 0);
        dueLayout("3: takeNear(255, 256)", whole);
        ExtentIndex inside = disk(20, 50, 72, 4);
        due("3: takeNear(60, 1) inside one, nearer to the next place", inside.takeNear(60, 1), 72);
    }

    private static void takeAt() {
        ExtentIndex x = new ExtentIndex();
        due("4: takeAt(10, 5)", x.takeAt(10, 5), 2);
        due("4: takeAt(0, 10)", x.takeAt(0, 10), 1);
        due("4: takeAt(255, 1)", x.takeAt(255, 1), 1);
        due("4: takeAt(100, 1)", x.takeAt(100, 1), 2);
        due("4: takeAt(99, 2) with its last one taken", x.takeAt(99, 2), -4);
        due("4: takeAt(100, 2) with its first one taken", x.takeAt(100, 2), -4);
        due("4: takeAt(98, 5) with one inside taken", x.takeAt(98, 5), -4);
        due("4: takeAt(200, 56) to the last block", x.takeAt(200, 56), -4);
        due("4: takeAt(200, 57) beyond it", x.takeAt(200, 57), -2);
        due("4: takeAt(255, 2)", x.takeAt(255, 2), -2);
        due("4: takeAt(1, 256)", x.takeAt(1, 256), -2);
        for (int n : BAD_SIZES) {
            due("4: takeAt(150, " + n + ")", x.takeAt(150, n), -2);
        }
        for (int from : BAD_BLOCKS) {
            due("4: takeAt(" + from + ", 1)", x.takeAt(from, 1), -1);
        }
        dueLayout("4: takes", x, 15, 85, 101, 154);

        ExtentIndex whole = new ExtentIndex();
        due("4: takeAt(0, 256)", whole.takeAt(0, 256), 0);
        dueLayout("4: takeAt(0, 256)", whole);
        ExtentIndex end = new ExtentIndex();
        due("4: takeAt(250, 6)", end.takeAt(250, 6), 1);
        dueLayout("4: takeAt(250, 6)", end, 0, 250);
    }

    private static void give() {
        ExtentIndex x = disk();
        due("5: give(10, 5)", x.give(10, 5), 5);
        due("5: give(20, 5)", x.give(20, 5), 5);
        due("5: give(8, 2) before one", x.give(8, 2), 7);
        due("5: give(25, 1) behind one", x.give(25, 1), 6);
        due("5: give(15, 5) between two", x.give(15, 5), 18);
        due("5: give(7, 2) with its last one free", x.give(7, 2), -5);
        due("5: give(25, 2) with its first one free", x.give(25, 2), -5);
        due("5: give(0, 40) with some inside free", x.give(0, 40), -5);
        due("5: give(255, 1)", x.give(255, 1), 1);
        due("5: give(0, 1)", x.give(0, 1), 1);
        due("5: give(255, 2)", x.give(255, 2), -2);
        due("5: give(100, 157)", x.give(100, 157), -2);
        due("5: give(1, 256)", x.give(1, 256), -2);
        for (int n : BAD_SIZES) {
            due("5: give(150, " + n + ")", x.give(150, n), -2);
        }
        for (int from : BAD_BLOCKS) {
            due("5: give(" + from + ", 1)", x.give(from, 1), -1);
        }
        dueLayout("5: gives", x, 0, 1, 8, 18, 255, 1);

        ExtentIndex whole = disk();
        due("5: give(0, 256)", whole.give(0, 256), 256);
        due("5: give(0, 256) twice", whole.give(0, 256), -5);
        dueLayout("5: give(0, 256)", whole, 0, 256);

        ExtentIndex parts = new ExtentIndex();
        parts.take(10);
        parts.take(10);
        due("5: give(5, 10) of two takings", parts.give(5, 10), 10);
        dueLayout("5: give(5, 10)", parts, 5, 10, 20, 236);
    }

    private static void takePieces() {
        ExtentIndex x = disk(10, 4, 30, 8, 50, 8, 70, 6);
        due("6: takePieces(10)", x.takePieces(10), 10);
        dueLayout("6: takePieces(10)", x, 10, 4, 52, 6, 70, 6);
        due("6: takePieces(6) of two equal ones", x.takePieces(6), 6);
        due("6: next(50)", x.next(50), 70);
        for (int n : BAD_SIZES) {
            due("6: takePieces(" + n + ")", x.takePieces(n), -2);
        }
        due("6: freeBlocks()", x.freeBlocks(), 10);
        due("6: takePieces(256) of ten", x.takePieces(256), 10);
        due("6: takePieces(1) on a full disk", x.takePieces(1), 0);
        due("6: freeBlocks() of a full disk", x.freeBlocks(), 0);

        ExtentIndex part = disk(10, 4, 30, 8);
        due("6: takePieces(3)", part.takePieces(3), 3);
        due("6: takePieces(2) of the rest, still the largest", part.takePieces(2), 2);
        due("6: takePieces(1) of the one that is larger now", part.takePieces(1), 1);
        dueLayout("6: takePieces", part, 11, 3, 35, 3);

        ExtentIndex whole = new ExtentIndex();
        due("6: takePieces(256)", whole.takePieces(256), 256);
        dueLayout("6: takePieces(256)", whole);

        ExtentIndex comb = disk();
        for (int block = 0; block < 256; block += 2) {
            comb.give(block, 1);
        }
        due("6: takePieces(127) of 128 single ones", comb.takePieces(127), 127);
        due("6: next(0)", comb.next(0), 254);
        due("6: takePieces(2) with one free", comb.takePieces(2), 1);
        due("6: extents()", comb.extents(), 0);
    }

    private static void clear() {
        ExtentIndex x = disk(3, 4, 255, 1);
        x.clear();
        due("7: extents()", x.extents(), 1);
        due("7: largest()", x.largest(), 256);
        dueLayout("7: clear()", x, 0, 256);
        x.clear();
        due("7: freeBlocks() after a second clear()", x.freeBlocks(), 256);
        due("7: take(256)", x.take(256), 0);
        x.clear();
        due("7: take(3)", x.take(3), 0);
        due("7: freeBlocks()", x.freeBlocks(), 253);
    }

    private static void free() {
        ExtentIndex x = disk(0, 1, 100, 2, 255, 1);
        for (int block : new int[] {0, 100, 101, 255}) {
            due("8: free(" + block + ")", x.free(block), true);
        }
        for (int block : new int[] {1, 99, 102, 254}) {
            due("8: free(" + block + ")", x.free(block), false);
        }
        ExtentIndex whole = new ExtentIndex();
        for (int block : BAD_BLOCKS) {
            due("8: free(" + block + ")", whole.free(block), false);
        }
    }

    private static void freeBlocks() {
        due("9: freeBlocks() when all are taken", disk().freeBlocks(), 0);
        due("9: freeBlocks()", disk(0, 3, 9, 4, 255, 1).freeBlocks(), 8);
        ExtentIndex x = new ExtentIndex();
        x.take(7);
        due("9: freeBlocks() after take", x.freeBlocks(), 249);
        x.takeNear(100, 3);
        due("9: freeBlocks() after takeNear", x.freeBlocks(), 246);
        x.takePieces(6);
        due("9: freeBlocks() after takePieces", x.freeBlocks(), 240);
        x.takeAt(250, 6);
        due("9: freeBlocks() after takeAt", x.freeBlocks(), 234);
        x.give(251, 5);
        due("9: freeBlocks() after give", x.freeBlocks(), 239);
    }

    private static void extents() {
        due("10: extents() when all are taken", disk().extents(), 0);
        due("10: extents()", disk(0, 3, 9, 4, 255, 1).extents(), 3);
        due("10: extents() with neighbours given apart", disk(9, 4, 13, 2).extents(), 1);
        ExtentIndex comb = disk();
        for (int block = 1; block < 256; block += 2) {
            comb.give(block, 1);
        }
        due("10: extents() of a comb", comb.extents(), 128);
    }

    private static void largest() {
        due("11: largest() when all are taken", disk().largest(), 0);
        due("11: largest() first", disk(0, 5, 9, 4, 255, 1).largest(), 5);
        due("11: largest() inside", disk(0, 3, 9, 4, 255, 1).largest(), 4);
        due("11: largest() last", disk(0, 3, 9, 4, 250, 6).largest(), 6);
        due("11: largest() of one block", disk(255, 1).largest(), 1);
    }

    private static void next() {
        ExtentIndex x = disk(5, 3, 20, 10);
        due("12: next(0)", x.next(0), 5);
        due("12: next(5) at the place", x.next(5), 5);
        due("12: next(6) inside the extent", x.next(6), 20);
        due("12: next(20)", x.next(20), 20);
        due("12: next(21) inside the last", x.next(21), -6);
        due("12: next(255)", x.next(255), -6);
        for (int block : BAD_BLOCKS) {
            due("12: next(" + block + ")", x.next(block), -1);
        }
        due("12: next(255) at the last block", disk(255, 1).next(255), 255);
        due("12: next(255) inside", disk(254, 2).next(255), -6);
        due("12: next(0) when all are taken", disk().next(0), -6);
        due("12: next(1) when all are free", new ExtentIndex().next(1), -6);
    }

    private static void sizeAt() {
        ExtentIndex x = disk(0, 2, 5, 3, 250, 6);
        int[] blocks = {0, 1, 2, 4, 5, 6, 7, 8, 249, 250, 255};
        int[] sizes = {2, 2, 0, 0, 3, 3, 3, 0, 0, 6, 6};
        for (int i = 0; i < blocks.length; i++) {
            due("13: sizeAt(" + blocks[i] + ")", x.sizeAt(blocks[i]), sizes[i]);
        }
        for (int block : BAD_BLOCKS) {
            due("13: sizeAt(" + block + ")", x.sizeAt(block), -1);
        }
    }

    private static void bySize() {
        ExtentIndex x = disk(0, 9, 20, 2, 40, 5, 60, 2, 80, 1, 255, 1);
        int[] places = {80, 255, 20, 60, 40, 0};
        for (int i = 0; i < places.length; i++) {
            due("14: bySize(" + i + ")", x.bySize(i), places[i]);
        }
        for (int i : new int[] {6, 7, 256, Integer.MAX_VALUE, -1, -6, Integer.MIN_VALUE}) {
            due("14: bySize(" + i + ")", x.bySize(i), -6);
        }
        due("14: bySize(0) when all are taken", disk().bySize(0), -6);
        due("14: bySize(0) when all are free", new ExtentIndex().bySize(0), 0);
        ExtentIndex comb = disk();
        for (int block = 1; block < 256; block += 2) {
            comb.give(block, 1);
        }
        due("14: bySize(127) of a comb", comb.bySize(127), 255);
        due("14: bySize(128) of a comb", comb.bySize(128), -6);
    }

    private static void atLeast() {
        ExtentIndex x = disk(0, 9, 20, 2, 40, 5, 60, 2, 80, 1);
        int[] sizes = {1, 2, 3, 5, 6, 9, 10, 256, 257, Integer.MAX_VALUE, 0, -1, Integer.MIN_VALUE};
        int[] counts = {5, 4, 2, 2, 1, 1, 0, 0, 0, 0, 5, 5, 5};
        for (int i = 0; i < sizes.length; i++) {
            due("15: atLeast(" + sizes[i] + ")", x.atLeast(sizes[i]), counts[i]);
        }
        due("15: atLeast(256) when all are free", new ExtentIndex().atLeast(256), 1);
        due("15: atLeast(0) when all are taken", disk().atLeast(0), 0);
    }

    private static void orderOfTests() {
        ExtentIndex full = disk();
        ExtentIndex empty = new ExtentIndex();
        for (int block : BAD_BLOCKS) {
            for (int n : BAD_SIZES) {
                String both = "(" + block + ", " + n + ")";
                due("16: takeNear" + both, full.takeNear(block, n), -1);
                due("16: takeAt" + both, full.takeAt(block, n), -1);
                due("16: give" + both, empty.give(block, n), -1);
            }
            due("16: takeNear(" + block + ", 1)", full.takeNear(block, 1), -1);
            due("16: takeAt(" + block + ", 1)", full.takeAt(block, 1), -1);
            due("16: give(" + block + ", 1)", empty.give(block, 1), -1);
        }
        for (int n : BAD_SIZES) {
            due("16: takeNear(0, " + n + ")", full.takeNear(0, n), -2);
            due("16: takeAt(0, " + n + ")", full.takeAt(0, n), -2);
            due("16: give(0, " + n + ")", empty.give(0, n), -2);
        }
        due("16: takeAt(200, 57)", full.takeAt(200, 57), -2);
        due("16: give(200, 57)", empty.give(200, 57), -2);
        due("16: takeNear(200, 57)", full.takeNear(200, 57), -3);
        due("16: takeAt(200, 56)", full.takeAt(200, 56), -4);
        due("16: give(200, 56)", empty.give(200, 56), -5);
        dueLayout("16: refusals", full);
        dueLayout("16: refusals", empty, 0, 256);
    }

    private static void readersChangeNothing() {
        ExtentIndex x = disk(0, 9, 20, 2, 255, 1);
        for (int argument : new int[] {0, 1, 20, 255, 256, -1, Integer.MIN_VALUE, Integer.MAX_VALUE}) {
            x.free(argument);
            x.freeBlocks();
            x.extents();
            x.largest();
            x.next(argument);
            x.sizeAt(argument);
            x.bySize(argument);
            x.atLeast(argument);
        }
        dueLayout("readers", x, 0, 9, 20, 2, 255, 1);
    }

    private static void objectsAreApart() {
        ExtentIndex x = new ExtentIndex();
        ExtentIndex y = new ExtentIndex();
        x.take(9);
        due("freeBlocks() of another object", y.freeBlocks(), 256);
        y.clear();
        due("freeBlocks() of the first object", x.freeBlocks(), 247);
    }

    private static void lastOfTheCalls() {
        ExtentIndex x = new ExtentIndex();
        for (int i = 0; i < 255; i++) {
            due("take(1) as call " + (2 * i + 1), x.take(1), 0);
            due("give(0, 1) as call " + (2 * i + 2), x.give(0, 1), 256);
        }
        due("take(200) as call 511", x.take(200), 0);
        due("freeBlocks() as call 512", x.freeBlocks(), 56);
    }
}

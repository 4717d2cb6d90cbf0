/** What README.md tells: its example line by line, then its tables. Change both together. */
public final class ExtentIndexReadme {
    private static int wrong = 0;

    public static void main(String[] args) {
        example();
        refusedByArgument();
        refusedByState();
        neverRefused();
        System.out.println(wrong == 0 ? "README.md tells the truth" : wrong + " answers are not as told");
        if (wrong != 0) {
            System.exit(1);
        }
    }

    private static void due(String call, Object got, Object want) {
        if (!want.equals(got)) {
            wrong++;
            System.out.println(call + " answered " + got + ", due is " + want);
        }
    }

    private static void example() {
        ExtentIndex disk = new ExtentIndex();

        due("take(10)", disk.take(10), 0);
        due("takeAt(100, 5)", disk.takeAt(100, 5), 2);
        due("takeNear(80, 20)", disk.takeNear(80, 20), 105);
        due("give(0, 10)", disk.give(0, 10), 100);
        due("takePieces(140)", disk.takePieces(140), 140);
        due("give(200, 56)", disk.give(200, 56), 56);
        due("give(120, 56)", disk.give(120, 56), 56);

        due("free(99)", disk.free(99), true);
        due("freeBlocks()", disk.freeBlocks(), 203);
        due("extents()", disk.extents(), 3);
        due("largest()", disk.largest(), 91);
        due("next(10)", disk.next(10), 120);
        due("sizeAt(50)", disk.sizeAt(50), 91);
        due("bySize(0)", disk.bySize(0), 120);
        due("atLeast(57)", disk.atLeast(57), 1);

        due("take(257)", disk.take(257), ExtentIndex.BAD_SIZE);
        due("take(92)", disk.take(92), ExtentIndex.NO_SPACE);
        due("takeAt(99, 2)", disk.takeAt(99, 2), ExtentIndex.TAKEN);
        due("give(99, 2)", disk.give(99, 2), ExtentIndex.FREE);
        due("sizeAt(256)", disk.sizeAt(256), ExtentIndex.BAD_BLOCK);
        due("next(201)", disk.next(201), ExtentIndex.NONE);
        due("freeBlocks() behind the refused calls", disk.freeBlocks(), 203);

        disk.clear();
        due("freeBlocks() behind clear()", disk.freeBlocks(), 256);
    }

    private static void refusedByArgument() {
        ExtentIndex disk = new ExtentIndex();
        due("takeNear(256, 0)", disk.takeNear(256, 0), -1);
        due("takeAt(-1, 0)", disk.takeAt(-1, 0), -1);
        due("give(256, 0)", disk.give(256, 0), -1);
        due("next(-1)", disk.next(-1), -1);
        due("sizeAt(-1)", disk.sizeAt(-1), -1);
        due("take(0)", disk.take(0), -2);
        due("takeNear(0, 257)", disk.takeNear(0, 257), -2);
        due("takeAt(255, 2)", disk.takeAt(255, 2), -2);
        due("give(255, 2)", disk.give(255, 2), -2);
        due("takePieces(257)", disk.takePieces(257), -2);
        due("freeBlocks() behind the refused calls", disk.freeBlocks(), 256);
    }

    private static void refusedByState() {
        ExtentIndex disk = new ExtentIndex();
        due("give(255, 1) with all free", disk.give(255, 1), -5);
        due("takePieces(256)", disk.takePieces(256), 256);
        due("take(1) with none free", disk.take(1), -3);
        due("takeNear(0, 1) with none free", disk.takeNear(0, 1), -3);
        due("takeAt(255, 1) with none free", disk.takeAt(255, 1), -4);
        due("next(0) with none free", disk.next(0), -6);
        due("bySize(0) with none free", disk.bySize(0), -6);
    }

    private static void neverRefused() {
        ExtentIndex disk = new ExtentIndex();
        due("free(256)", disk.free(256), false);
        due("bySize(-1)", disk.bySize(-1), -6);
        due("atLeast(-1)", disk.atLeast(-1), 1);
        due("atLeast(257)", disk.atLeast(257), 0);
        due("takePieces(256)", disk.takePieces(256), 256);
        due("takePieces(1) with none free", disk.takePieces(1), 0);
        due("largest() with none free", disk.largest(), 0);
        due("sizeAt(0) with none free", disk.sizeAt(0), 0);
    }
}

import java.util.ArrayList;
import java.util.Comparator;
import java.util.List;
import java.util.Map;
import java.util.TreeMap;

/**
 * Many runs of up to 512 calls, each answer held against a model that keeps the extents
 * themselves (place to size) where the class keeps blocks. The runs are the same each time.
 */
public final class ExtentIndexAgainstModel {
    private static final int RUNS = 3000;
    private static final int CALLS = 512;
    private static final int[] ODD = {-1, 0, 1, 2, 127, 128, 254, 255, 256, 257, -2, -6,
        Integer.MIN_VALUE, Integer.MAX_VALUE, Integer.MAX_VALUE - 254, -256};

    private static long seed;

    public static void main(String[] args) {
        int wrong = 0;
        for (int run = 0; run < RUNS; run++) {
            seed = run;
            if (!agrees(run)) {
                wrong++;
            }
        }
        System.out.println(wrong == 0 ? "all runs agree with the model" : wrong + " runs do not agree");
        if (wrong != 0) {
            System.exit(1);
        }
    }

    /** One run, up to its first wrong answer: behind that one the two may differ for good. */
    private static boolean agrees(int run) {
        ExtentIndex x = new ExtentIndex();
        Model model = new Model();
        int greatestSize = 1 + below(run % 3 == 0 ? 256 : run % 3 == 1 ? 40 : 4);
        int readers = below(8);
        for (int i = 0; i < CALLS; i++) {
            int call = below(6 + readers);
            if (call >= 6) {
                call = 7 + below(8);
            } else if (call == 5 && below(60) == 0) {
                call = 6;
            }
            int[] ab = arguments(call, model, greatestSize);
            int got = ofProgram(x, call, ab[0], ab[1]);
            int want = model.answer(call, ab[0], ab[1]);
            if (got != want) {
                System.out.println("run " + run + ", call " + i + ": " + NAMES[call] + " with "
                    + ab[0] + ", " + ab[1] + " answered " + got + ", due is " + want);
                return false;
            }
        }
        return true;
    }

    private static final String[] NAMES = {"take", "takeNear", "takeAt", "give", "give", "takePieces",
        "clear", "free", "freeBlocks", "extents", "largest", "next", "sizeAt", "bySize", "atLeast"};

    private static int ofProgram(ExtentIndex x, int call, int a, int b) {
        switch (call) {
            case 0: return x.take(b);
            case 1: return x.takeNear(a, b);
            case 2: return x.takeAt(a, b);
            case 3: case 4: return x.give(a, b);
            case 5: return x.takePieces(b);
            case 6: x.clear(); return 0;
            case 7: return x.free(a) ? 1 : 0;
            case 8: return x.freeBlocks();
            case 9: return x.extents();
            case 10: return x.largest();
            case 11: return x.next(a);
            case 12: return x.sizeAt(a);
            case 13: return x.bySize(a);
            default: return x.atLeast(b);
        }
    }

    private static int[] arguments(int call, Model model, int greatestSize) {
        int a = below(25) == 0 ? ODD[below(ODD.length)] : below(256);
        int b = below(25) == 0 ? ODD[below(ODD.length)] : 1 + below(greatestSize);
        // Blind choices are nearly always refused: these fit the stretch that begins at a.
        if ((call == 2 || call == 3 || call == 4) && a >= 0 && a < 256 && below(2) == 0) {
            int stretch = model.stretch(a, call == 2);
            if (stretch > 0) {
                b = 1 + below(Math.min(stretch, greatestSize));
            }
        }
        if (call == 13 && below(3) != 0) {
            a = below(model.extents.size() + 2) - 1;
        }
        return new int[] {a, b};
    }

    private static int below(int bound) {
        seed = seed * 6364136223846793005L + 1442695040888963407L;
        return (int) ((seed >>> 33) % bound);
    }

    private static final class Model {
        final TreeMap<Integer, Integer> extents = new TreeMap<>();

        Model() {
            extents.put(0, 256);
        }

        int answer(int call, int a, int b) {
            boolean badBlock = a < 0 || a > 255;
            boolean badSize = b < 1 || b > 256;
            switch (call) {
                case 0: return badSize ? -2 : takeFirst(sorted(b, bySizeThenPlace()), b);
                case 1: return badBlock ? -1 : badSize ? -2 : takeFirst(sorted(b, byDistance(a)), b);
                case 2: return badBlock ? -1 : badSize || 256L < (long) a + b ? -2 : takeAt(a, b);
                case 3: case 4: return badBlock ? -1 : badSize || 256L < (long) a + b ? -2 : give(a, b);
                case 5: return badSize ? -2 : takePieces(b);
                case 6: extents.clear(); extents.put(0, 256); return 0;
                case 7: return !badBlock && sizeAt(a) > 0 ? 1 : 0;
                case 8: return extents.values().stream().mapToInt(s -> s).sum();
                case 9: return extents.size();
                case 10: return extents.values().stream().mapToInt(s -> s).max().orElse(0);
                case 11: return badBlock ? -1 : extents.ceilingKey(a) == null ? -6 : extents.ceilingKey(a);
                case 12: return badBlock ? -1 : sizeAt(a);
                case 13: return a < 0 || a >= extents.size() ? -6 : sorted(1, bySizeThenPlace()).get(a);
                default: return sorted(b, bySizeThenPlace()).size();
            }
        }

        /** How many blocks from 'from' on are all free, or all taken. */
        int stretch(int from, boolean free) {
            Map.Entry<Integer, Integer> under = extents.floorEntry(from);
            boolean isFree = under != null && from < under.getKey() + under.getValue();
            if (isFree != free) {
                return 0;
            }
            if (free) {
                return under.getKey() + under.getValue() - from;
            }
            Integer above = extents.higherKey(from);
            return (above == null ? 256 : above) - from;
        }

        private Comparator<Integer> bySizeThenPlace() {
            return Comparator.<Integer>comparingInt(extents::get).thenComparingInt(p -> p);
        }

        private Comparator<Integer> byDistance(int near) {
            return Comparator.<Integer>comparingInt(p -> Math.abs(p - near)).thenComparingInt(p -> p);
        }

        private List<Integer> sorted(int least, Comparator<Integer> order) {
            List<Integer> places = new ArrayList<>(extents.keySet());
            places.removeIf(p -> extents.get(p) < least);
            places.sort(order);
            return places;
        }

        private int takeFirst(List<Integer> places, int n) {
            if (places.isEmpty()) {
                return -3;
            }
            cut(places.get(0), n);
            return places.get(0);
        }

        private int takeAt(int from, int n) {
            if (stretch(from, true) < n) {
                return -4;
            }
            cut(from, n);
            return extents.size();
        }

        private int give(int from, int n) {
            if (stretch(from, false) < n) {
                return -5;
            }
            int place = from;
            int size = n;
            Integer behind = extents.remove(from + n);
            if (behind != null) {
                size += behind;
            }
            Map.Entry<Integer, Integer> before = extents.lowerEntry(from);
            if (before != null && before.getKey() + before.getValue() == from) {
                place = before.getKey();
                size += before.getValue();
            }
            extents.put(place, size);
            return size;
        }

        private int takePieces(int n) {
            int left = n;
            while (left > 0 && !extents.isEmpty()) {
                Comparator<Integer> largestFirst =
                    Comparator.<Integer>comparingInt(p -> -extents.get(p)).thenComparingInt(p -> p);
                int place = sorted(1, largestFirst).get(0);
                int piece = Math.min(left, extents.get(place));
                cut(place, piece);
                left -= piece;
            }
            return n - left;
        }

        private int sizeAt(int block) {
            return stretch(block, true) == 0 ? 0 : extents.floorEntry(block).getValue();
        }

        private void cut(int from, int n) {
            Map.Entry<Integer, Integer> whole = extents.floorEntry(from);
            int end = whole.getKey() + whole.getValue();
            extents.remove(whole.getKey());
            if (whole.getKey() < from) {
                extents.put(whole.getKey(), from - whole.getKey());
            }
            if (from + n < end) {
                extents.put(from + n, end - from - n);
            }
        }
    }
}

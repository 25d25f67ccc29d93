import java.util.ArrayList;
import java.util.List;

/**
 * Runs of calls beside a slow model that is written from the document's terms and shares no way of
 * working with the class: all small cases, then many runs drawn from a fixed sequence of numbers.
 */
public final class ModelTest {
    private static final int[] ODD_NUMBERS = {
        Integer.MIN_VALUE, -61, -32, -2, -1, 0, 8, 9, 32, 61, 64, 256, Integer.MAX_VALUE
    };

    private static long drawn = 20261115L;

    public static void main(String[] args) {
        everySmallCase();
        for (int run = 0; run < 2500; run++) {
            closelySeenRun(run);
        }
        for (int run = 0; run < 250; run++) {
            longestRun(run);
        }
        Check.end();
    }

    private static void everySmallCase() {
        for (int size = 1; size <= 5; size++) {
            for (int count = 0; count <= 4; count++) {
                int cases = (int) Math.pow(size, count);
                for (int code = 0; code < cases; code++) {
                    Desk desk = new Desk(size);
                    Model model = new Model(size);
                    int rest = code;
                    for (int k = 0; k < count; k++) {
                        int s = rest % size + 1;
                        rest /= size;
                        due("small", "add(" + s + ")", desk.add(s), model.add(s));
                    }
                    compareAll("size " + size + " case " + count + "/" + code, desk, model);
                }
            }
        }
    }

    /** Few calls, but the state is looked at after each, and every question is asked at last. */
    private static void closelySeenRun(int run) {
        int size = drawBinSize();
        Desk desk = new Desk(size);
        Model model = new Model(size);
        int reach = drawReach();
        for (int k = 0; k < 24 && !Check.tooManyWrong(); k++) {
            String where = "run " + run + " call " + k;
            step(where, desk, model, reach);
            compareState(where, desk, model);
        }
        compareAll("run " + run, desk, model);
    }

    /** As many calls as an object is promised to answer. */
    private static void longestRun(int run) {
        int size = drawBinSize();
        Desk desk = new Desk(size);
        Model model = new Model(size);
        int reach = drawReach();
        for (int k = 0; k < Desk.MOST_CALLS && !Check.tooManyWrong(); k++) {
            step("long run " + run + " call " + k, desk, model, reach);
        }
    }

    private static int drawBinSize() {
        return draw(10) == 0 ? odd() : draw(60) + 1;
    }

    /** Small items make many packings, large ones few. */
    private static int drawReach() {
        return draw(4) + 1;
    }

    private static void step(String where, Desk desk, Model model, int reach) {
        int i = item();
        int j = item();
        int s = drawSize(model.size, reach);
        int n = draw(12) == 0 ? odd() : draw(9) + 1;
        switch (draw(23)) {
            case 0, 1, 2, 3, 4, 5, 6 -> due(where, "add(" + s + ")", desk.add(s), model.add(s));
            case 7, 8 -> due(where, "remove(" + i + ")", desk.remove(i), model.remove(i));
            case 9, 10 -> due(where, "resize(" + i + ", " + s + ")", desk.resize(i, s), model.resize(i, s));
            case 11 -> {
                int size = draw(3) == 0 ? odd() : draw(62);
                due(where, "setSize(" + size + ")", desk.setSize(size), model.setSize(size));
            }
            case 12 -> due(where, "least()", desk.least(), model.least());
            case 13, 14 -> due(where, "binOf(" + i + ")", desk.binOf(i), model.binOf(i));
            case 15 -> due(where, "leastWithout(" + i + ")", desk.leastWithout(i), model.leastWithout(i));
            case 16 -> due(where, "spare()", desk.spare(), model.spare());
            case 17 -> due(where, "sizeFor(" + n + ")", desk.sizeFor(n), model.sizeFor(n));
            case 18 -> due(where, "sizeOf(" + i + ")", desk.sizeOf(i), model.sizeOf(i));
            case 19 -> due(where, "size()", desk.size(), model.size);
            case 20 -> due(where, "items()", desk.items(), model.items());
            default -> due(where, "together(" + i + ", " + j + ")", desk.together(i, j), model.together(i, j));
        }
    }

    private static void compareState(String where, Desk desk, Model model) {
        due(where, "size()", desk.size(), model.size);
        due(where, "items()", desk.items(), model.items());
        for (int i = 0; i < 8; i++) {
            due(where, "sizeOf(" + i + ")", desk.sizeOf(i), model.sizeOf(i));
        }
    }

    private static void compareAll(String where, Desk desk, Model model) {
        compareState(where, desk, model);
        due(where, "least()", desk.least(), model.least());
        due(where, "spare()", desk.spare(), model.spare());
        for (int i = -1; i <= 8; i++) {
            due(where, "binOf(" + i + ")", desk.binOf(i), model.binOf(i));
            due(where, "leastWithout(" + i + ")", desk.leastWithout(i), model.leastWithout(i));
            due(where, "sizeFor(" + i + ")", desk.sizeFor(i), model.sizeFor(i));
            for (int j = -1; j <= 8; j++) {
                due(where, "together(" + i + ", " + j + ")", desk.together(i, j), model.together(i, j));
            }
        }
        compareState(where + " after the questions", desk, model);
    }

    private static int draw(int bound) {
        drawn = drawn * 6364136223846793005L + 1442695040888963407L;
        return (int) ((drawn >>> 33) % bound);
    }

    private static int odd() {
        return ODD_NUMBERS[draw(ODD_NUMBERS.length)];
    }

    private static int item() {
        return draw(15) == 0 ? odd() : draw(8);
    }

    private static int drawSize(int size, int reach) {
        return switch (draw(15)) {
            case 0 -> odd();
            case 1 -> size + draw(3) - 1;
            default -> draw(Math.max(1, size * reach / 4)) + 1;
        };
    }

    private static void due(String where, String call, Object got, Object want) {
        Check.of(where);
        Check.due(call, got, want);
    }

    /** What the document says, with no thought of speed. A size of 0 stands for no item. */
    private static final class Model {
        private final int[] sizes = new int[8];
        private int size;

        Model(int size) {
            this.size = Math.min(60, Math.max(1, size));
        }

        int add(int s) {
            if (s < 1 || s > size) {
                return -1;
            }
            for (int i = 0; i < 8; i++) {
                if (sizes[i] == 0) {
                    sizes[i] = s;
                    return i;
                }
            }
            return -2;
        }

        boolean isThere(int i) {
            return i >= 0 && i <= 7 && sizes[i] != 0;
        }

        boolean remove(int i) {
            boolean there = isThere(i);
            if (there) {
                sizes[i] = 0;
            }
            return there;
        }

        boolean resize(int i, int s) {
            boolean can = isThere(i) && s >= 1 && s <= size;
            if (can) {
                sizes[i] = s;
            }
            return can;
        }

        boolean setSize(int wanted) {
            boolean can = wanted >= 1 && wanted <= 60;
            for (int s : sizes) {
                can = can && s <= wanted;
            }
            if (can) {
                size = wanted;
            }
            return can;
        }

        int items() {
            int bits = 0;
            for (int i = 0; i < 8; i++) {
                bits += sizes[i] == 0 ? 0 : 1 << i;
            }
            return bits;
        }

        int sizeOf(int i) {
            return isThere(i) ? sizes[i] : -1;
        }

        int least() {
            return leastOf(listed(-1, -1), size);
        }

        int leastWithout(int i) {
            return isThere(i) ? leastOf(listed(i, -1), size) : -1;
        }

        int spare() {
            int count = least();
            for (int s = size; s >= 1; s--) {
                List<Integer> more = listed(-1, -1);
                more.add(s);
                if (leastOf(more, size) <= count) {
                    return s;
                }
            }
            return 0;
        }

        int sizeFor(int n) {
            List<Integer> all = listed(-1, -1);
            if (n < 1 || n > 8 || all.isEmpty()) {
                return -1;
            }
            int wide = all.stream().max(Integer::compare).get();
            while (leastOf(all, wide) > n) {
                wide++;
            }
            return wide;
        }

        /** Two items share a bin just when one item of both sizes could stand for them. */
        boolean together(int i, int j) {
            if (!isThere(i) || !isThere(j) || i == j || sizes[i] + sizes[j] > size) {
                return false;
            }
            List<Integer> merged = listed(i, j);
            merged.add(sizes[i] + sizes[j]);
            return leastOf(merged, size) == least();
        }

        int binOf(int i) {
            if (!isThere(i)) {
                return -1;
            }
            List<Integer> all = listed(-1, -1);
            int count = least();
            int[] bins = new int[all.size()];
            if (!findFirst(all, bins, 0, new int[count])) {
                throw new IllegalStateException("no packing with the least count");
            }
            int place = 0;
            for (int k = 0; k < i; k++) {
                place += sizes[k] == 0 ? 0 : 1;
            }
            return bins[place];
        }

        /** All rows of bins below the least count, in dictionary order, up to the first neat packing. */
        private boolean findFirst(List<Integer> all, int[] bins, int place, int[] loads) {
            if (place == bins.length) {
                return isNeat(bins);
            }
            for (int bin = 0; bin < loads.length; bin++) {
                if (loads[bin] + all.get(place) <= size) {
                    loads[bin] += all.get(place);
                    bins[place] = bin;
                    if (findFirst(all, bins, place + 1, loads)) {
                        return true;
                    }
                    loads[bin] -= all.get(place);
                }
            }
            return false;
        }

        private static boolean isNeat(int[] bins) {
            boolean[] used = new boolean[bins.length + 1];
            for (int bin : bins) {
                int leastUnused = 0;
                while (used[leastUnused]) {
                    leastUnused++;
                }
                if (!used[bin] && bin != leastUnused) {
                    return false;
                }
                used[bin] = true;
            }
            return true;
        }

        private List<Integer> listed(int leftOut, int alsoLeftOut) {
            List<Integer> list = new ArrayList<>();
            for (int i = 0; i < 8; i++) {
                if (sizes[i] != 0 && i != leftOut && i != alsoLeftOut) {
                    list.add(sizes[i]);
                }
            }
            return list;
        }

        /** For every set of items: the fewest bins and, with those, the least load of the last one. */
        private static int leastOf(List<Integer> list, int room) {
            int sets = 1 << list.size();
            int[] worth = new int[sets];
            for (int set = 1; set < sets; set++) {
                worth[set] = Integer.MAX_VALUE;
                for (int k = 0; k < list.size(); k++) {
                    if ((set >> k & 1) == 1) {
                        int before = worth[set - (1 << k)];
                        int count = before / 1000;
                        int load = before % 1000 + list.get(k);
                        if (count == 0 || load > room) {
                            count++;
                            load = list.get(k);
                        }
                        worth[set] = Math.min(worth[set], count * 1000 + load);
                    }
                }
            }
            return worth[sets - 1] / 1000;
        }
    }
}

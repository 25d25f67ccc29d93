import java.util.Arrays;

/** Each promise of the document by hand-made runs: ordinary inputs, the named edges, wrong inputs. */
public final class PromisesTest {
    private static final int[] NO_ITEM_NUMBERS = {
        -1, -2, -8, 8, 9, 31, 32, 33, 64, 256, Integer.MIN_VALUE, Integer.MIN_VALUE + 1, Integer.MAX_VALUE
    };
    private static final int[] NEVER_A_SIZE = {
        0, -1, -60, 61, 62, 256, 257, 1 << 16, Integer.MIN_VALUE, Integer.MIN_VALUE + 1, Integer.MAX_VALUE
    };
    private static final int[] NEVER_A_COUNT = {
        0, -1, -8, 9, 10, 256, 257, Integer.MIN_VALUE, Integer.MAX_VALUE
    };

    private static int wrong = 0;
    private static int promise = 0;

    public static void main(String[] args) {
        newObject();
        add();
        remove();
        resize();
        setSize();
        size();
        items();
        sizeOf();
        least();
        binOf();
        leastWithout();
        spare();
        sizeFor();
        together();
        orderAndLimits();
        System.out.println(wrong == 0 ? "all answers are as due" : wrong + " answers are not as due");
        if (wrong != 0) {
            System.exit(1);
        }
    }

    private static void newObject() {
        promise = 1;
        int[][] givenAndDue = {
            {1, 1}, {2, 2}, {37, 37}, {59, 59}, {60, 60}, {0, 1}, {-1, 1}, {-60, 1}, {61, 60}, {1000, 60},
            {257, 60}, {Integer.MIN_VALUE, 1}, {Integer.MAX_VALUE, 60}
        };
        for (int[] pair : givenAndDue) {
            BinDesk desk = new BinDesk(pair[0]);
            String made = "new BinDesk(" + pair[0] + ")";
            due(made + ".size()", desk.size(), pair[1]);
            due(made + ".items()", desk.items(), 0);
            due(made + ".least()", desk.least(), 0);
            for (int i = 0; i < 8; i++) {
                due(made + ".sizeOf(" + i + ")", desk.sizeOf(i), BinDesk.NONE);
            }
            due(made + ".add(one above)", desk.add(pair[1] + 1), BinDesk.NONE);
            due(made + ".add(its size)", desk.add(pair[1]), 0);
        }
        BinDesk one = desk(10, 4);
        BinDesk other = new BinDesk(20);
        due("items of a second object", other.items(), 0);
        due("size of the first object", one.size(), 10);
        due("items of the first object", one.items(), 1);
    }

    private static void add() {
        promise = 2;
        BinDesk desk = new BinDesk(12);
        for (int i = 0; i < 8; i++) {
            due("add, number " + i, desk.add(i + 1), i);
            due("sizeOf after add", desk.sizeOf(i), i + 1);
        }
        due("items after eight adds", desk.items(), 255);
        refused("a ninth add", desk, d -> d.add(1), BinDesk.FULL);
        refused("a ninth add of the greatest size", desk, d -> d.add(12), BinDesk.FULL);

        desk.remove(5);
        desk.remove(2);
        due("add takes the least free number", desk.add(12), 2);
        due("its size", desk.sizeOf(2), 12);
        due("then the next one", desk.add(1), 5);
        due("its size", desk.sizeOf(5), 1);

        BinDesk edges = new BinDesk(12);
        for (int s : NEVER_A_SIZE) {
            refused("add(" + s + ")", edges, d -> d.add(s), BinDesk.NONE);
        }
        refused("add(13) in bins of 12", edges, d -> d.add(13), BinDesk.NONE);
        due("add(12) in bins of 12", edges.add(12), 0);
        due("add(1)", edges.add(1), 1);
        edges.setSize(13);
        due("add(13) after setSize(13)", edges.add(13), 2);
    }

    private static void remove() {
        promise = 3;
        BinDesk desk = desk(10, 6, 5, 4);
        due("remove(1)", desk.remove(1), true);
        due("items", desk.items(), 0b101);
        due("sizeOf(1)", desk.sizeOf(1), BinDesk.NONE);
        due("sizeOf(0)", desk.sizeOf(0), 6);
        due("sizeOf(2)", desk.sizeOf(2), 4);
        due("least", desk.least(), 1);
        refused("remove(1) again", desk, d -> d.remove(1), false);
        refused("remove(3), never there", desk, d -> d.remove(3), false);
        for (int i : NO_ITEM_NUMBERS) {
            refused("remove(" + i + ")", desk, d -> d.remove(i), false);
        }
        due("remove(0)", desk.remove(0), true);
        due("remove(2)", desk.remove(2), true);
        due("items when all are gone", desk.items(), 0);
        due("least when all are gone", desk.least(), 0);
        refused("remove(0) with no items", desk, d -> d.remove(0), false);

        BinDesk full = desk(10, 1, 2, 3, 4, 5, 6, 7, 8);
        due("remove(7) of eight", full.remove(7), true);
        due("items", full.items(), 127);
    }

    private static void resize() {
        promise = 4;
        BinDesk desk = desk(10, 6, 5);
        due("resize(1, 4)", desk.resize(1, 4), true);
        due("sizeOf(1)", desk.sizeOf(1), 4);
        due("sizeOf(0)", desk.sizeOf(0), 6);
        due("least", desk.least(), 1);
        due("resize(1, 10)", desk.resize(1, 10), true);
        due("sizeOf(1)", desk.sizeOf(1), 10);
        due("resize(1, 1)", desk.resize(1, 1), true);
        due("sizeOf(1)", desk.sizeOf(1), 1);
        due("resize to the size it has", desk.resize(0, 6), true);
        due("items stay", desk.items(), 0b11);
        refused("resize(0, 11) in bins of 10", desk, d -> d.resize(0, 11), false);
        refused("resize(2, 5), never there", desk, d -> d.resize(2, 5), false);
        for (int s : NEVER_A_SIZE) {
            refused("resize(0, " + s + ")", desk, d -> d.resize(0, s), false);
        }
        for (int i : NO_ITEM_NUMBERS) {
            refused("resize(" + i + ", 3)", desk, d -> d.resize(i, 3), false);
        }
        desk.remove(0);
        refused("resize(0, 3) after remove(0)", desk, d -> d.resize(0, 3), false);
        due("sizeOf(0) after it", desk.sizeOf(0), BinDesk.NONE);
        desk.setSize(5);
        refused("resize(1, 6) in bins of 5 now", desk, d -> d.resize(1, 6), false);
        due("resize(1, 5) in bins of 5 now", desk.resize(1, 5), true);
    }

    private static void setSize() {
        promise = 5;
        BinDesk desk = desk(20, 9, 7, 4);
        due("setSize(9), the largest item", desk.setSize(9), true);
        due("size", desk.size(), 9);
        due("sizeOf(0) is kept", desk.sizeOf(0), 9);
        due("sizeOf(1) is kept", desk.sizeOf(1), 7);
        due("sizeOf(2) is kept", desk.sizeOf(2), 4);
        due("least in bins of 9", desk.least(), 3);
        refused("setSize(8), below the largest item", desk, d -> d.setSize(8), false);
        refused("setSize(1)", desk, d -> d.setSize(1), false);
        for (int size : NEVER_A_SIZE) {
            refused("setSize(" + size + ")", desk, d -> d.setSize(size), false);
        }
        due("setSize(60)", desk.setSize(60), true);
        due("size", desk.size(), 60);
        due("least in bins of 60", desk.least(), 1);
        due("setSize to what it is", desk.setSize(60), true);
        desk.remove(0);
        due("an item that is gone is no longer larger", desk.setSize(7), true);
        due("size", desk.size(), 7);
        desk.resize(1, 2);
        due("nor is one that was made smaller", desk.setSize(4), true);

        BinDesk empty = new BinDesk(30);
        for (int size : NEVER_A_SIZE) {
            refused("setSize(" + size + ") with no items", empty, d -> d.setSize(size), false);
        }
        due("setSize(1) with no items", empty.setSize(1), true);
        due("size", empty.size(), 1);

        BinDesk last = desk(10, 1, 1, 1, 1, 1, 1, 1, 5);
        refused("setSize(4), item 7 is larger", last, d -> d.setSize(4), false);
        due("setSize(5)", last.setSize(5), true);
    }

    private static void size() {
        promise = 6;
        BinDesk desk = new BinDesk(17);
        due("size", desk.size(), 17);
        desk.add(17);
        desk.add(18);
        due("size after adds", desk.size(), 17);
        desk.setSize(18);
        due("size after setSize(18)", desk.size(), 18);
        desk.setSize(16);
        due("size after a refused setSize", desk.size(), 18);
        desk.sizeFor(1);
        desk.remove(0);
        due("size after the rest", desk.size(), 18);
    }

    private static void items() {
        promise = 7;
        BinDesk desk = new BinDesk(9);
        int[] after = {1, 3, 7, 15, 31, 63, 127, 255};
        due("items of a new object", desk.items(), 0);
        for (int i = 0; i < 8; i++) {
            desk.add(9 - i);
            due("items after add " + i, desk.items(), after[i]);
        }
        desk.remove(0);
        due("items without 0", desk.items(), 254);
        desk.remove(6);
        due("items without 0 and 6", desk.items(), 190);
        desk.resize(3, 1);
        desk.setSize(50);
        due("resize and setSize leave them", desk.items(), 190);
        desk.add(1);
        due("items with 0 again", desk.items(), 191);
    }

    private static void sizeOf() {
        promise = 8;
        BinDesk desk = desk(60, 60, 1, 30);
        due("sizeOf(0)", desk.sizeOf(0), 60);
        due("sizeOf(1)", desk.sizeOf(1), 1);
        due("sizeOf(2)", desk.sizeOf(2), 30);
        for (int i = 3; i < 8; i++) {
            due("sizeOf(" + i + "), never there", desk.sizeOf(i), BinDesk.NONE);
        }
        for (int i : NO_ITEM_NUMBERS) {
            refused("sizeOf(" + i + ")", desk, d -> d.sizeOf(i), BinDesk.NONE);
        }
        desk.remove(0);
        due("sizeOf(0) once removed", desk.sizeOf(0), BinDesk.NONE);
        desk.add(7);
        due("sizeOf(0) of the new item 0", desk.sizeOf(0), 7);
    }

    private static void least() {
        promise = 9;
        due("no items", new BinDesk(60).least(), 0);
        due("one item", desk(10, 3).least(), 1);
        due("two that just fit", desk(10, 3, 7).least(), 1);
        due("two that just do not", desk(10, 4, 7).least(), 2);
        due("eight of size 1 in bins of 1", desk(1, 1, 1, 1, 1, 1, 1, 1, 1).least(), 8);
        due("eight of size 1 in bins of 8", desk(8, 1, 1, 1, 1, 1, 1, 1, 1).least(), 1);
        due("eight of size 1 in bins of 7", desk(7, 1, 1, 1, 1, 1, 1, 1, 1).least(), 2);
        due("eight of size 60", desk(60, 60, 60, 60, 60, 60, 60, 60, 60).least(), 8);
        due("eight of size 31 in bins of 60", desk(60, 31, 31, 31, 31, 31, 31, 31, 31).least(), 8);
        due("eight of size 30 in bins of 60", desk(60, 30, 30, 30, 30, 30, 30, 30, 30).least(), 4);
        // Putting every item into the first bin with room takes three bins here.
        due("first fit is not least", desk(10, 3, 3, 6, 4, 4).least(), 2);
        due("nor is the largest first", desk(10, 4, 4, 3, 3, 3, 3).least(), 2);
        due("the sum alone is not enough", desk(10, 6, 6, 6).least(), 3);
        BinDesk gaps = desk(10, 9, 5, 9, 5, 9);
        gaps.remove(0);
        gaps.remove(2);
        gaps.remove(4);
        due("numbers between which some are free", gaps.least(), 1);
    }

    private static void binOf() {
        promise = 10;
        bins("each in its own", desk(5, 5, 5, 5), 0, 1, 2);
        bins("all in one", desk(60, 5, 5, 5), 0, 0, 0);
        bins("first fit would not be least", desk(10, 3, 3, 6, 4, 4), 0, 0, 1, 0, 1);
        bins("eight apart", desk(1, 1, 1, 1, 1, 1, 1, 1, 1), 0, 1, 2, 3, 4, 5, 6, 7);
        // Filling bin 0 as early as can be, then bin 1, would give other packings here.
        bins("the bins are read item by item", desk(10, 4, 3, 2, 7, 5, 6, 6), 0, 1, 1, 2, 1, 0, 3);
        bins("so they are with eight", desk(10, 2, 6, 5, 4, 1, 4, 5, 2), 0, 0, 1, 1, 1, 2, 2, 0);
        bins("and here", desk(12, 5, 4, 2, 6, 7, 8, 9), 0, 1, 1, 1, 0, 2, 3);

        BinDesk gaps = desk(10, 2, 6, 9, 5, 4);
        gaps.remove(0);
        gaps.remove(2);
        bins("the first item there gets bin 0", gaps, BinDesk.NONE, 0, BinDesk.NONE, 1, 0);
        gaps.remove(1);
        bins("also when another goes", gaps, BinDesk.NONE, BinDesk.NONE, BinDesk.NONE, 0, 0);
        gaps.add(6);
        bins("and when one comes before it", gaps, 0, BinDesk.NONE, BinDesk.NONE, 1, 0);

        BinDesk last = desk(10, 1, 1, 1, 1, 1, 1, 1, 9);
        for (int i = 0; i < 7; i++) {
            last.remove(i);
        }
        due("item 7 alone", last.binOf(7), 0);

        BinDesk changed = desk(10, 6, 4, 5);
        bins("before a change", changed, 0, 0, 1);
        changed.resize(1, 5);
        bins("after resize", changed, 0, 1, 1);
        changed.setSize(16);
        bins("after setSize", changed, 0, 0, 0);
        for (int i : NO_ITEM_NUMBERS) {
            refused("binOf(" + i + ")", changed, d -> d.binOf(i), BinDesk.NONE);
        }
        due("binOf(0) with no items", new BinDesk(4).binOf(0), BinDesk.NONE);
    }

    private static void leastWithout() {
        promise = 11;
        BinDesk desk = desk(10, 6, 6, 4, 5);
        due("least", desk.least(), 3);
        due("leastWithout(0)", desk.leastWithout(0), 2);
        due("leastWithout(1)", desk.leastWithout(1), 2);
        due("leastWithout(2)", desk.leastWithout(2), 3);
        due("leastWithout(3)", desk.leastWithout(3), 2);
        due("items stay", desk.items(), 15);
        due("sizes stay", desk.sizeOf(0), 6);
        due("least stays", desk.least(), 3);
        due("binOf is still of all items", desk.binOf(3), 2);
        refused("leastWithout(4), never there", desk, d -> d.leastWithout(4), BinDesk.NONE);
        for (int i : NO_ITEM_NUMBERS) {
            refused("leastWithout(" + i + ")", desk, d -> d.leastWithout(i), BinDesk.NONE);
        }
        desk.remove(0);
        due("leastWithout(0) once removed", desk.leastWithout(0), BinDesk.NONE);
        due("leastWithout(3) then", desk.leastWithout(3), 1);
        due("leastWithout(0) with no items", new BinDesk(3).leastWithout(0), BinDesk.NONE);
        due("one of eight apart", desk(1, 1, 1, 1, 1, 1, 1, 1, 1).leastWithout(7), 7);
    }

    private static void spare() {
        promise = 12;
        due("one item", desk(10, 3).spare(), 7);
        due("one item of size 1 in bins of 60", desk(60, 1).spare(), 59);
        due("one item that fills its bin", desk(10, 10).spare(), 0);
        due("two full bins", desk(10, 10, 4, 6).spare(), 0);
        due("room in one bin, not the sum of all rooms", desk(10, 7, 6).spare(), 4);
        // The first packing, 5+3 and 5+4, leaves 2; 5+5 and 3+4 leave 3.
        due("not only the first packing counts", desk(10, 5, 3, 5, 4).spare(), 3);
        due("more bins are not used", desk(10, 6, 6).spare(), 4);

        BinDesk eight = desk(20, 1, 2, 3, 4, 5, 6, 7, 8);
        due("eight items there", eight.spare(), 4);
        due("all eight full", desk(8, 1, 1, 1, 1, 1, 1, 1, 1).spare(), 0);
        due("eight apart with room", desk(60, 31, 32, 33, 34, 35, 36, 37, 38).spare(), 29);
        due("items stay", eight.items(), 255);

        BinDesk gaps = desk(10, 9, 4, 9, 5);
        gaps.remove(0);
        gaps.remove(2);
        due("items that are gone take no room", gaps.spare(), 1);
        gaps.setSize(30);
        due("after setSize", gaps.spare(), 21);
    }

    private static void sizeFor() {
        promise = 13;
        BinDesk desk = desk(10, 7, 5, 4, 2);
        due("sizeFor(1)", desk.sizeFor(1), 18);
        due("sizeFor(2)", desk.sizeFor(2), 9);
        due("sizeFor(3)", desk.sizeFor(3), 7);
        due("sizeFor(4)", desk.sizeFor(4), 7);
        due("sizeFor(8), more bins than items", desk.sizeFor(8), 7);
        due("size stays", desk.size(), 10);
        for (int n : NEVER_A_COUNT) {
            refused("sizeFor(" + n + ")", desk, d -> d.sizeFor(n), BinDesk.NONE);
        }
        desk.setSize(50);
        due("the size that the bins have does not matter", desk.sizeFor(2), 9);
        desk.remove(0);
        due("the largest is gone", desk.sizeFor(8), 5);
        due("sizeFor(1) then", desk.sizeFor(1), 11);

        BinDesk empty = new BinDesk(10);
        for (int n = -1; n <= 9; n++) {
            due("sizeFor(" + n + ") with no items", empty.sizeFor(n), BinDesk.NONE);
        }
        empty.add(4);
        empty.remove(0);
        due("sizeFor(1) when all are gone", empty.sizeFor(1), BinDesk.NONE);

        BinDesk eight = desk(1, 1, 1, 1, 1, 1, 1, 1, 1);
        int[] ones = {8, 4, 3, 2, 2, 2, 2, 1};
        for (int n = 1; n <= 8; n++) {
            due("eight of size 1, sizeFor(" + n + ")", eight.sizeFor(n), ones[n - 1]);
        }
        due("largest first is not best", desk(10, 3, 3, 2, 2, 2).sizeFor(2), 6);
    }

    private static void together() {
        promise = 14;
        BinDesk desk = desk(10, 6, 5, 4, 3);
        due("together(0, 1), too large", desk.together(0, 1), false);
        due("together(0, 2)", desk.together(0, 2), true);
        due("together(2, 0)", desk.together(2, 0), true);
        due("not in the first packing, but in another", desk.together(0, 3), true);
        due("nor this one", desk.together(1, 2), true);
        // 4 + 3 fit together, but then 6 and 5 need a bin each.
        due("fit, but not with the least count", desk.together(2, 3), false);
        for (int i = 0; i < 8; i++) {
            due("together(" + i + ", " + i + ")", desk.together(i, i), false);
        }
        refused("together(0, 4), never there", desk, d -> d.together(0, 4), false);
        refused("together(4, 0), never there", desk, d -> d.together(4, 0), false);
        for (int i : NO_ITEM_NUMBERS) {
            refused("together(0, " + i + ")", desk, d -> d.together(0, i), false);
            refused("together(" + i + ", 0)", desk, d -> d.together(i, 0), false);
            refused("together(" + i + ", " + i + ")", desk, d -> d.together(i, i), false);
        }
        desk.remove(0);
        due("together(0, 2) once 0 is removed", desk.together(0, 2), false);
        due("together(2, 0) once 0 is removed", desk.together(2, 0), false);
        due("together(4, 5), no such items", desk.together(4, 5), false);
        desk.setSize(12);
        due("one bin is enough now", desk.together(2, 3), true);
        BinDesk ends = desk(60, 30, 20, 20, 20, 15, 15, 30, 30);
        due("together(0, 7)", ends.together(0, 7), true);
        due("together(1, 7)", ends.together(1, 7), false);
        due("together(3, 1)", ends.together(3, 1), true);
    }

    private static void orderAndLimits() {
        promise = 15;
        BinDesk eight = desk(10, 9, 8, 7, 6, 5, 4, 3, 2);
        refused("add(0) with eight there", eight, d -> d.add(0), BinDesk.NONE);
        refused("add(11) with eight there", eight, d -> d.add(11), BinDesk.NONE);
        refused("add(10) with eight there", eight, d -> d.add(10), BinDesk.FULL);
        for (int s : NEVER_A_SIZE) {
            refused("add(" + s + ") with eight there", eight, d -> d.add(s), BinDesk.NONE);
        }
        due("NONE", BinDesk.NONE, -1);
        due("FULL", BinDesk.FULL, -2);

        BinDesk only = desk(10, 4, 5);
        only.remove(0);
        due("leastWithout the only item", only.leastWithout(1), 0);
        due("it is still there", only.items(), 2);
        due("spare with no items", new BinDesk(60).spare(), 0);
        only.remove(1);
        due("spare when all are gone", only.spare(), 0);

        BinDesk large = desk(60, 60, 60, 60, 60, 60, 60, 60, 60);
        int[] dueFor = {480, 240, 180, 120, 120, 120, 120, 60};
        for (int n = 1; n <= 8; n++) {
            due("eight of size 60, sizeFor(" + n + ")", large.sizeFor(n), dueFor[n - 1]);
        }
        due("61 is an answer", desk(60, 31, 30).sizeFor(1), 61);
        due("60 is an answer", desk(60, 30, 30).sizeFor(1), 60);
    }

    private interface BooleanCall {
        boolean on(BinDesk desk);
    }

    private interface IntCall {
        int on(BinDesk desk);
    }

    private static void refused(String call, BinDesk desk, BooleanCall made, boolean want) {
        String before = state(desk);
        due(call, made.on(desk), want);
        due("the state after " + call, state(desk), before);
    }

    private static void refused(String call, BinDesk desk, IntCall made, int want) {
        String before = state(desk);
        due(call, made.on(desk), want);
        due("the state after " + call, state(desk), before);
    }

    private static String state(BinDesk desk) {
        int[] sizes = new int[8];
        int[] bins = new int[8];
        for (int i = 0; i < 8; i++) {
            sizes[i] = desk.sizeOf(i);
            bins[i] = desk.binOf(i);
        }
        return desk.size() + " " + desk.items() + " " + Arrays.toString(sizes) + " " + Arrays.toString(bins)
            + " " + desk.least() + " " + desk.spare() + " " + desk.sizeFor(1);
    }

    private static void bins(String call, BinDesk desk, int... want) {
        for (int i = 0; i < 8; i++) {
            due(call + ", binOf(" + i + ")", desk.binOf(i), i < want.length ? want[i] : BinDesk.NONE);
        }
    }

    private static BinDesk desk(int size, int... sizes) {
        BinDesk desk = new BinDesk(size);
        for (int s : sizes) {
            desk.add(s);
        }
        return desk;
    }

    private static void due(String call, Object got, Object want) {
        if (!got.equals(want)) {
            wrong++;
            System.out.println("promise " + promise + ": " + call + " answered " + got + ", due is " + want);
        }
    }
}

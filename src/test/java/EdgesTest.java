import java.util.function.Function;
import java.util.function.Supplier;

/**
 * The document read sentence by sentence: a test of its own for each that names an edge (too small,
 * too large, empty, full, a call that is refused), under the promise's number and the sentence's own
 * words, with the case in [ ] where a sentence has several.
 */
public final class EdgesTest {
    // Beside the neighbours of 0 .. 7: numbers that a shift, a byte or a short would take for 0, 1 or 7.
    private static final int[] NO_ITEM_NUMBERS = {
        -1, -2, -7, -8, 8, 9, 15, 31, 32, 33, 39, 64, 71, -32, -31, -25, 256, 257, 263, 65536, 65537,
        Integer.MIN_VALUE, Integer.MIN_VALUE + 1, Integer.MAX_VALUE, Integer.MAX_VALUE - 1
    };
    private static final int[] NEVER_A_SIZE = {
        0, -1, -2, -60, 61, 62, 120, 256, 257, 261, -255, 65536, 65537, 65541,
        Integer.MIN_VALUE, Integer.MIN_VALUE + 1, Integer.MIN_VALUE + 5, Integer.MAX_VALUE
    };
    private static final int[] NEVER_A_COUNT = {
        0, -1, -2, -8, 9, 10, 16, 32, 33, 256, 257, -255, 65537,
        Integer.MIN_VALUE, Integer.MIN_VALUE + 1, Integer.MAX_VALUE
    };

    private static final Supplier<Desk> EMPTY = () -> new Desk(10);
    private static final Supplier<Desk> EMPTIED = () -> Desk.of(10, 0, 0, 0);
    private static final Supplier<Desk> SOME = () -> Desk.of(10, 6, 0, 4, 3, 0, 9);
    private static final Supplier<Desk> EIGHT = () -> Desk.of(10, 9, 8, 7, 6, 5, 4, 3, 2);

    public static void main(String[] args) {
        head();
        terms();
        newObject();
        add();
        remove();
        resize();
        setSize();
        sizeItemsAndSizeOf();
        least();
        binOf();
        leastWithout();
        spare();
        sizeFor();
        together();
        orderAndLimits();
        Check.end();
    }

    private static void test(String sentence, Runnable checks) {
        Check.of(sentence);
        checks.run();
    }

    private static void head() {
        test("An object is used for at most 512 calls", EdgesTest::lastOfAllCalls);
    }

    private static void lastOfAllCalls() {
        lastCall("add(10)", d -> d.add(10), 4);
        lastCall("add(11)", d -> d.add(11), BinDesk.NONE);
        lastCall("remove(3)", d -> d.remove(3), true);
        lastCall("remove(4)", d -> d.remove(4), false);
        lastCall("resize(0, 10)", d -> d.resize(0, 10), true);
        lastCall("resize(0, 11)", d -> d.resize(0, 11), false);
        lastCall("setSize(6)", d -> d.setSize(6), true);
        lastCall("setSize(5)", d -> d.setSize(5), false);
        lastCall("size()", d -> d.size(), 10);
        lastCall("items()", d -> d.items(), 0b1111);
        lastCall("sizeOf(3)", d -> d.sizeOf(3), 3);
        lastCall("least()", d -> d.least(), 2);
        lastCall("binOf(3)", d -> d.binOf(3), 1);
        lastCall("leastWithout(0)", d -> d.leastWithout(0), 2);
        lastCall("spare()", d -> d.spare(), 2);
        lastCall("sizeFor(1)", d -> d.sizeFor(1), 18);
        lastCall("together(0, 3)", d -> d.together(0, 3), true);
    }

    private static void lastCall(String call, Function<Desk, Object> asked, Object want) {
        Desk desk = Desk.of(10, 6, 5, 4, 3);
        while (desk.calls() + 8 < Desk.MOST_CALLS) {
            desk.add(desk.calls() % 10 + 1);
            desk.remove(4);
            desk.setSize(20);
            desk.setSize(10);
            desk.resize(2, 10);
            desk.resize(2, 4);
            desk.spare();
        }
        while (desk.calls() + 1 < Desk.MOST_CALLS) {
            desk.least();
        }
        Check.due("call 512, " + call + ",", asked.apply(desk), want);
        Check.due("the number of calls", desk.calls(), 512);
    }

    private static void terms() {
        test("There are at most eight ITEMS, with numbers 0 .. 7", EdgesTest::eightItems);
        test("each of a size from 1 to the SIZE of the bins", EdgesTest::leastAndGreatestItems);
        test("the items of a bin are together at most the size of the bins", EdgesTest::justFull);
        test("a bin that has an item already or the least one that has none", EdgesTest::noBinIsSkipped);
        test("(so the first item gets bin 0)", EdgesTest::firstItemGetsBinZero);
        test("the one whose bins ... are least in the dictionary order", EdgesTest::firstOfManyPackings);
    }

    private static void eightItems() {
        Desk desk = new Desk(10);
        for (int i = 0; i <= 7; i++) {
            Check.due("add(2), time " + (i + 1) + ",", desk.add(2), i);
        }
        Check.due("add(2), time 9,", desk.add(2), BinDesk.FULL);
        Check.due("items()", desk.items(), 0b11111111);
        Check.due("sizeOf(7)", desk.sizeOf(7), 2);
        Check.due("sizeOf(8)", desk.sizeOf(8), BinDesk.NONE);
    }

    private static void leastAndGreatestItems() {
        for (int size = 1; size <= 60; size++) {
            Desk desk = new Desk(size);
            String bins = " in bins of " + size;
            Check.due("add(1)" + bins, desk.add(1), 0);
            Check.due("add(" + size + ")" + bins, desk.add(size), 1);
            Check.due("resize(0, " + size + ")" + bins, desk.resize(0, size), true);
            Check.due("resize(1, 1)" + bins, desk.resize(1, 1), true);
            Check.due("sizeOf(0)" + bins, desk.sizeOf(0), size);
            Check.due("sizeOf(1)" + bins, desk.sizeOf(1), 1);
        }
    }

    private static void justFull() {
        for (int size = 2; size <= 60; size++) {
            for (int s = 1; s < size; s++) {
                Desk desk = Desk.of(size, s, size - s);
                String items = s + " and " + (size - s) + " in bins of " + size;
                Check.due("least() of " + items, desk.least(), 1);
                desk.resize(0, s + 1);
                Check.due("least() with one more than " + items, desk.least(), 2);
            }
        }
        Check.due("least() of eight that fill a bin", Desk.of(36, 1, 2, 3, 4, 5, 6, 7, 8).least(), 1);
        Check.due("least() of eight, one too many", Desk.of(35, 1, 2, 3, 4, 5, 6, 7, 8).least(), 2);
    }

    private static void noBinIsSkipped() {
        Check.due("bins of eight apart", Desk.of(60, 31, 60, 32, 59, 33, 58, 34, 57).bins(), "0 1 2 3 4 5 6 7");
        Check.due("bins, a late item alone in the last", Desk.of(10, 5, 5, 5, 5, 1).bins(), "0 0 1 1 2 . . .");
        Check.due("bins, an early item alone", Desk.of(10, 10, 5, 5, 5, 5).bins(), "0 1 1 2 2 . . .");
        Check.due("bins with numbers free", Desk.of(10, 0, 10, 0, 10, 0, 10, 0, 10).bins(), ". 0 . 1 . 2 . 3");
    }

    private static void firstItemGetsBinZero() {
        for (int first = 0; first <= 7; first++) {
            Desk desk = Desk.of(10, 6, 6, 6, 6, 6, 6, 6, 6);
            for (int i = 0; i < first; i++) {
                desk.remove(i);
            }
            for (int i = first; i <= 7; i++) {
                Check.due("binOf(" + i + ") when " + first + " is the first", desk.binOf(i), i - first);
            }
        }
    }

    private static void firstOfManyPackings() {
        Check.due("bins, all items alike", Desk.of(10, 5, 5, 5, 5, 5, 5, 5, 5).bins(), "0 0 1 1 2 2 3 3");
        Check.due("bins, all items alike, three a bin", Desk.of(3, 1, 1, 1, 1, 1, 1, 1, 1).bins(), "0 0 0 1 1 1 2 2");
        Check.due("bins, the last item could join any", Desk.of(10, 6, 6, 6, 4).bins(), "0 1 2 0 . . . .");
        // Two bins are enough only if items 0 and 1 part, though they fit together.
        Check.due("bins, the earliest ones are no least count", Desk.of(10, 4, 5, 6, 5).bins(), "0 1 0 1 . . . .");
    }

    private static void newObject() {
        test("1: No items.", EdgesTest::nothingIsThere);
        test("1: clamped to 1 .. 60 [too small]", () -> {
            for (int size = -200; size <= 1; size++) {
                clamped(size, 1);
            }
            clamped(Integer.MIN_VALUE, 1);
            clamped(Integer.MIN_VALUE + 30, 1);
            clamped(-65536 + 30, 1);
        });
        test("1: clamped to 1 .. 60 [within]", () -> {
            for (int size = 1; size <= 60; size++) {
                clamped(size, size);
            }
        });
        test("1: clamped to 1 .. 60 [too large]", () -> {
            for (int size = 60; size <= 400; size++) {
                clamped(size, 60);
            }
            clamped(Integer.MAX_VALUE, 60);
            clamped(65536 + 30, 60);
        });
    }

    private static void nothingIsThere() {
        for (int size : new int[] {Integer.MIN_VALUE, 0, 1, 30, 60, 61, Integer.MAX_VALUE}) {
            Desk desk = new Desk(size);
            Check.due("items()", desk.items(), 0);
            Check.due("least()", desk.least(), 0);
            for (int i = 0; i < 8; i++) {
                Check.due("sizeOf(" + i + ")", desk.sizeOf(i), BinDesk.NONE);
                Check.due("remove(" + i + ")", desk.remove(i), false);
            }
        }
        Desk one = Desk.of(10, 4);
        Desk other = new Desk(20);
        Check.due("items() of a second object", other.items(), 0);
        Check.due("size() of the first object", one.size(), 10);
    }

    private static void clamped(int given, int due) {
        Desk desk = new Desk(given);
        String made = "new BinDesk(" + given + ")";
        Check.due(made + ".size()", desk.size(), due);
        Check.due(made + ".add(" + (due + 1) + ")", desk.add(due + 1), BinDesk.NONE);
        Check.due(made + ".add(" + due + ")", desk.add(due), 0);
    }

    private static void add() {
        test("2: its number, the least that no item has", EdgesTest::leastFreeNumber);
        test("2: NONE when s is not from 1 to the size of the bins [too small]", () -> {
            for (int size = 1; size <= 60; size++) {
                for (int s = -3; s <= 0; s++) {
                    refusedAdd(size, s);
                }
            }
        });
        test("2: NONE when s is not from 1 to the size of the bins [too large]", () -> {
            for (int size = 1; size <= 60; size++) {
                for (int s = size + 1; s <= 62; s++) {
                    refusedAdd(size, s);
                }
            }
        });
        test("2: NONE when s is not from 1 to the size of the bins [far off]", () -> {
            for (int s : NEVER_A_SIZE) {
                refusedAdd(10, s);
                refusedAdd(60, s);
                Check.unchanged("add(" + s + ")", SOME, d -> d.add(s), BinDesk.NONE);
            }
        });
        test("2: NONE when s is not from 1 to the size of the bins [as it is now]", EdgesTest::addAfterSetSize);
        test("2: FULL when eight are there", EdgesTest::fullOnlyWithEight);
    }

    private static void refusedAdd(int size, int s) {
        Check.unchanged("add(" + s + ") in bins of " + size, () -> new Desk(size), d -> d.add(s), BinDesk.NONE);
    }

    private static void leastFreeNumber() {
        for (int free = 1; free <= 255; free++) {
            Desk desk = Desk.of(10, 1, 2, 3, 4, 5, 6, 7, 8);
            for (int i = 7; i >= 0; i--) {
                if ((free >> i & 1) == 1) {
                    desk.remove(i);
                }
            }
            for (int i = 0; i <= 7; i++) {
                if ((free >> i & 1) == 1) {
                    Check.due("add(10) with the free numbers " + free, desk.add(10), i);
                    Check.due("sizeOf(" + i + ") after it", desk.sizeOf(i), 10);
                } else {
                    Check.due("sizeOf(" + i + "), there all the time,", desk.sizeOf(i), i + 1);
                }
            }
            Check.due("items() at last", desk.items(), 255);
        }
    }

    private static void addAfterSetSize() {
        Desk desk = new Desk(10);
        desk.setSize(11);
        Check.due("add(12) in bins of 11 now", desk.add(12), BinDesk.NONE);
        Check.due("add(11) in bins of 11 now", desk.add(11), 0);
        desk.remove(0);
        desk.setSize(9);
        Check.due("add(10) in bins of 9 now", desk.add(10), BinDesk.NONE);
        Check.due("add(9) in bins of 9 now", desk.add(9), 0);
        desk.setSize(61);
        Check.due("add(10) after a setSize that was refused", desk.add(10), BinDesk.NONE);
    }

    private static void fullOnlyWithEight() {
        Desk desk = Desk.of(10, 1, 2, 3, 4, 5, 6, 7);
        Check.due("add(8) with seven there", desk.add(8), 7);
        Check.due("add(8) with eight there", desk.add(8), BinDesk.FULL);
        Check.due("add(8) with eight there, again,", desk.add(8), BinDesk.FULL);
        desk.remove(7);
        Check.due("add(9) with seven there again", desk.add(9), 7);
        Check.due("sizeOf(7)", desk.sizeOf(7), 9);
        Check.unchanged("add(1) with eight there", EIGHT, d -> d.add(1), BinDesk.FULL);
        Check.unchanged("add(10), as large as a bin, with eight there", EIGHT, d -> d.add(10), BinDesk.FULL);
    }

    private static void remove() {
        test("3: Takes item i away [the only one]", () -> {
            for (int only = 0; only <= 7; only++) {
                Desk desk = alone(only);
                Check.due("remove(" + only + ")", desk.remove(only), true);
                Check.due("items() after it", desk.items(), 0);
                Check.due("least() after it", desk.least(), 0);
            }
        });
        test("3: Takes item i away [one of eight]", () -> {
            for (int i = 0; i <= 7; i++) {
                Desk desk = EIGHT.get();
                Check.due("remove(" + i + ")", desk.remove(i), true);
                Check.due("items() after it", desk.items(), 255 - (1 << i));
                Check.due("sizeOf(" + i + ") after it", desk.sizeOf(i), BinDesk.NONE);
            }
        });
        test("3: false, changing nothing, when there is none", () -> forNoItem("remove", Desk::remove, false));
        test("3: false, changing nothing, when there is none [it is gone already]", () -> {
            Desk desk = EIGHT.get();
            Check.due("remove(3)", desk.remove(3), true);
            Check.due("remove(3), again,", desk.remove(3), false);
            Check.due("items()", desk.items(), 0b11110111);
        });
    }

    private interface OfItem {
        Object ask(Desk desk, int i);
    }

    /** What a method does with a number that no item has: never there, gone, or not 0 .. 7 at all. */
    private static void forNoItem(String method, OfItem asked, Object want) {
        for (int i = 0; i <= 7; i++) {
            int number = i;
            String call = method + " of " + number;
            Check.unchanged(call + " with no items", EMPTY, d -> asked.ask(d, number), want);
            Check.unchanged(call + " when all are gone", EMPTIED, d -> asked.ask(d, number), want);
        }
        for (int i : new int[] {1, 4, 6, 7}) {
            Check.unchanged(method + " of " + i + ", not there,", SOME, d -> asked.ask(d, i), want);
        }
        for (int i : NO_ITEM_NUMBERS) {
            String call = method + " of " + i;
            Check.unchanged(call + " with no items", EMPTY, d -> asked.ask(d, i), want);
            Check.unchanged(call + " with some items", SOME, d -> asked.ask(d, i), want);
            Check.unchanged(call + " with eight items", EIGHT, d -> asked.ask(d, i), want);
        }
    }

    private static Desk alone(int number) {
        Desk desk = Desk.of(10, 3, 3, 3, 3, 3, 3, 3, 3);
        for (int i = 0; i <= 7; i++) {
            if (i != number) {
                desk.remove(i);
            }
        }
        return desk;
    }

    private static void resize() {
        test("4: false, changing nothing, when there is no item i", () ->
            forNoItem("resize to 3", (d, i) -> d.resize(i, 3), false));
        test("4: false, changing nothing, when ... s is not from 1 to the size of the bins [too small]", () -> {
            for (int s = -3; s <= 0; s++) {
                refusedResizes(s);
            }
        });
        test("4: false, changing nothing, when ... s is not from 1 to the size of the bins [too large]", () -> {
            for (int s = 11; s <= 62; s++) {
                refusedResizes(s);
            }
        });
        test("4: false, changing nothing, when ... s is not from 1 to the size of the bins [far off]", () -> {
            for (int s : NEVER_A_SIZE) {
                refusedResizes(s);
                Check.unchanged("resize(0, " + s + ") in bins of 60", () -> Desk.of(60, 5), d -> d.resize(0, s), false);
            }
        });
        test("4: false, changing nothing, when ... s is not from 1 to the size of the bins [as it is now]", () -> {
            Desk desk = Desk.of(10, 3);
            desk.setSize(5);
            Check.due("resize(0, 6) in bins of 5 now", desk.resize(0, 6), false);
            Check.due("resize(0, 5) in bins of 5 now", desk.resize(0, 5), true);
            desk.setSize(12);
            Check.due("resize(0, 13) in bins of 12 now", desk.resize(0, 13), false);
            Check.due("resize(0, 12) in bins of 12 now", desk.resize(0, 12), true);
        });
        test("4: there is no item i or s is not from 1 to the size of the bins [both]", () -> {
            Check.unchanged("resize(1, 0)", SOME, d -> d.resize(1, 0), false);
            Check.unchanged("resize(8, 11)", SOME, d -> d.resize(8, 11), false);
            Check.unchanged("resize(-1, -1)", EMPTY, d -> d.resize(-1, -1), false);
        });
        test("4: Gives item i another size and answers true [also with eight there]", () -> {
            for (int i = 0; i <= 7; i++) {
                Desk desk = EIGHT.get();
                Check.due("resize(" + i + ", 10)", desk.resize(i, 10), true);
                Check.due("sizeOf(" + i + ")", desk.sizeOf(i), 10);
                Check.due("items()", desk.items(), 255);
                Check.due("resize(" + i + ", 10), the size it has,", desk.resize(i, 10), true);
            }
        });
    }

    private static void refusedResizes(int s) {
        Check.unchanged("resize(0, " + s + ") in bins of 10", SOME, d -> d.resize(0, s), false);
        Check.unchanged("resize(5, " + s + ") in bins of 10", SOME, d -> d.resize(5, s), false);
    }

    private static void setSize() {
        test("5: (items keep theirs)", () -> {
            Desk desk = Desk.of(10, 1, 2, 3, 4, 5, 6, 7, 8);
            for (int size : new int[] {60, 8, 59, 9}) {
                Check.due("setSize(" + size + ")", desk.setSize(size), true);
                Check.due("size()", desk.size(), size);
                for (int i = 0; i <= 7; i++) {
                    Check.due("sizeOf(" + i + ") after setSize(" + size + ")", desk.sizeOf(i), i + 1);
                }
            }
        });
        test("5: false, changing nothing, when size is not 1 .. 60 [too small]", () -> {
            for (int size = -200; size <= 0; size++) {
                refusedSetSize(size);
            }
        });
        test("5: false, changing nothing, when size is not 1 .. 60 [too large]", () -> {
            for (int size = 61; size <= 400; size++) {
                refusedSetSize(size);
            }
        });
        test("5: false, changing nothing, when size is not 1 .. 60 [far off]", () -> {
            for (int size : NEVER_A_SIZE) {
                refusedSetSize(size);
            }
        });
        test("5: Gives the bins another size [each of 1 .. 60, with no items]", () -> {
            for (int size = 1; size <= 60; size++) {
                Desk desk = new Desk(30);
                Check.due("setSize(" + size + ")", desk.setSize(size), true);
                Check.due("size()", desk.size(), size);
            }
        });
        test("5: false, changing nothing, when ... some item is larger", EdgesTest::setSizeBelowAnItem);
        test("5: false, changing nothing, when ... some item is larger [as they are now]", () -> {
            Desk desk = Desk.of(10, 9, 5, 3);
            Check.due("setSize(8)", desk.setSize(8), false);
            desk.remove(0);
            Check.due("setSize(5) when the one of 9 is gone", desk.setSize(5), true);
            Check.due("setSize(4)", desk.setSize(4), false);
            desk.resize(1, 2);
            Check.due("setSize(3) when the one of 5 has 2", desk.setSize(3), true);
            desk.add(1);
            Check.due("setSize(3) when number 0 is of another item", desk.setSize(3), true);
            desk.setSize(10);
            desk.resize(2, 10);
            Check.due("setSize(9) when the one of 3 has 10", desk.setSize(9), false);
        });
    }

    private static void refusedSetSize(int size) {
        Check.unchanged("setSize(" + size + ") with no items", EMPTY, d -> d.setSize(size), false);
        Check.unchanged("setSize(" + size + ")", SOME, d -> d.setSize(size), false);
    }

    private static void setSizeBelowAnItem() {
        for (int largest = 1; largest <= 60; largest++) {
            int number = largest % 8;
            int item = largest;
            Supplier<Desk> made = () -> {
                Desk desk = Desk.of(60, 1, 1, 1, 1, 1, 1, 1, 1);
                desk.resize(number, item);
                return desk;
            };
            for (int size = 1; size <= 60; size++) {
                Desk desk = made.get();
                String call = "setSize(" + size + ") with " + item + " the size of item " + number;
                Check.due(call, desk.setSize(size), size >= item);
                Check.due("size() after " + call, desk.size(), size >= item ? size : 60);
                Check.due("sizeOf(" + number + ") after " + call, desk.sizeOf(number), item);
            }
        }
        Check.unchanged("setSize(8), one below an item,", SOME, d -> d.setSize(8), false);
        Check.unchanged("setSize(1), below every item,", SOME, d -> d.setSize(1), false);
        Check.unchanged("setSize(8), one below an item of eight,", EIGHT, d -> d.setSize(8), false);
    }

    private static void sizeItemsAndSizeOf() {
        test("6: The size of the bins [the least and the greatest]", () -> {
            Desk desk = new Desk(1);
            Check.due("size() of the least", desk.size(), 1);
            desk.setSize(60);
            Check.due("size() of the greatest", desk.size(), 60);
            desk.setSize(61);
            Check.due("size() after setSize(61)", desk.size(), 60);
            desk.setSize(1);
            desk.setSize(0);
            Check.due("size() after setSize(1) and setSize(0)", desk.size(), 1);
        });
        test("7: bit i for item i [empty and full]", () -> {
            Check.due("items() of a new object", EMPTY.get().items(), 0);
            Check.due("items() when all are gone", EMPTIED.get().items(), 0);
            Check.due("items() of eight", EIGHT.get().items(), 255);
        });
        test("7: bit i for item i [one alone]", () -> {
            for (int only = 0; only <= 7; only++) {
                Check.due("items() of " + only + " alone", alone(only).items(), 1 << only);
            }
        });
        test("8: NONE when there is none", () -> forNoItem("sizeOf", Desk::sizeOf, BinDesk.NONE));
    }

    private static void least() {
        test("9: 0 when there are no items", () -> {
            for (int size = 1; size <= 60; size++) {
                Desk desk = new Desk(size);
                Check.due("least() of a new object", desk.least(), 0);
                desk.add(size);
                Check.due("least() of one", desk.least(), 1);
                desk.remove(0);
                Check.due("least() when it is gone", desk.least(), 0);
            }
        });
        test("9: The least count [each item in a bin of its own]", () -> {
            Check.due("least() in bins of 1", Desk.of(1, 1, 1, 1, 1, 1, 1, 1, 1).least(), 8);
            Check.due("least() of eight of 31", Desk.of(60, 31, 31, 31, 31, 31, 31, 31, 31).least(), 8);
            Check.due("least() of eight of 60", Desk.of(60, 60, 60, 60, 60, 60, 60, 60, 60).least(), 8);
        });
    }

    private static void binOf() {
        test("10: NONE when there is no item i", () -> forNoItem("binOf", Desk::binOf, BinDesk.NONE));
        test("10: The bin of item i [one alone]", () -> {
            for (int only = 0; only <= 7; only++) {
                Check.due("binOf(" + only + ")", alone(only).binOf(only), 0);
            }
        });
    }

    private static void leastWithout() {
        test("11: NONE when there is no item i", () -> forNoItem("leastWithout", Desk::leastWithout, BinDesk.NONE));
        test("11: if item i were not there [but it is]", () -> {
            for (int i = 0; i <= 7; i++) {
                int number = i;
                Check.unchanged("leastWithout(" + i + ")", EIGHT, d -> d.leastWithout(number), i < 5 ? 4 : 5);
            }
        });
    }

    private static void spare() {
        test("12: (from 0 to the size of the bins)", () -> {
            for (int size = 1; size <= 60; size++) {
                Check.due("spare() beside 1 in bins of " + size, Desk.of(size, 1).spare(), size - 1);
                Check.due("spare() beside " + size + " in bins of it", Desk.of(size, size).spare(), 0);
            }
        });
        test("12: without the least count becoming greater", EdgesTest::spareIsTheGreatest);
        test("12: 0 when even an item of size 1 would make it greater", () -> {
            Check.due("spare() in bins of 1", Desk.of(1, 1, 1, 1).spare(), 0);
            Check.due("spare() in two full bins", Desk.of(10, 5, 4, 5, 6).spare(), 0);
            Check.due("spare() in two bins, all but 1 taken", Desk.of(10, 5, 4, 5, 5).spare(), 1);
            Check.due("spare() in one bin of seven", Desk.of(7, 1, 1, 1, 1, 1, 1, 1).spare(), 0);
            Check.due("spare() in one bin of seven and room for 1", Desk.of(8, 1, 1, 1, 1, 1, 1, 1).spare(), 1);
        });
        test("12: (That eight items may be there does not matter.)", () -> {
            Check.due("spare() in one bin", Desk.of(60, 1, 1, 1, 1, 1, 1, 1, 1).spare(), 52);
            Check.due("spare() in one full bin", Desk.of(8, 1, 1, 1, 1, 1, 1, 1, 1).spare(), 0);
            Check.due("spare() in eight bins", Desk.of(60, 60, 31, 60, 60, 60, 60, 60, 60).spare(), 29);
            Check.due("spare() in the last of eight", Desk.of(60, 60, 60, 60, 60, 60, 60, 60, 32).spare(), 28);
            Check.due("spare() in eight full bins", Desk.of(60, 60, 60, 60, 60, 60, 60, 60, 60).spare(), 0);
            // 9 is alone; of the 40 in four bins 35 are taken, and 8+2, 7+3, 6+4, 5 leave the rest in one.
            Check.unchanged("spare()", EIGHT, d -> d.spare(), 5);
        });
    }

    /** An item of the size that spare names needs no further bin; one that is larger by 1 does. */
    private static void spareIsTheGreatest() {
        int[][] rows = {
            {3}, {7, 6}, {5, 3, 5, 4}, {6, 6, 1}, {10, 10}, {4, 4, 4, 3, 3}, {9, 8, 7, 6, 5, 4, 3}, {1, 1, 2, 3, 5, 8}
        };
        for (int[] row : rows) {
            Desk desk = Desk.of(10, row);
            int count = desk.least();
            int spare = desk.spare();
            if (spare > 0) {
                int number = desk.add(spare);
                Check.due("least() with one more of the spare size", desk.least(), count);
                desk.remove(number);
            }
            desk.add(spare + 1);
            Check.due("least() with one more, larger than that,", desk.least(), count + 1);
        }
    }

    private static void sizeFor() {
        test("13: (from the size of the largest item on)", () -> {
            for (int s = 1; s <= 60; s++) {
                for (int n = 1; n <= 8; n++) {
                    Check.due("sizeFor(" + n + ") of one of " + s, Desk.of(60, s).sizeFor(n), s);
                }
            }
            Desk desk = Desk.of(60, 2, 9, 3);
            Check.due("sizeFor(3), a bin each,", desk.sizeFor(3), 9);
            Check.due("sizeFor(2), the small ones beside the largest,", desk.sizeFor(2), 9);
            for (int i = 0; i <= 7; i++) {
                Desk eight = Desk.of(60, 40, 40, 40, 40, 40, 40, 40, 40);
                eight.resize(i, 50);
                Check.due("sizeFor(8) with " + i + " the largest", eight.sizeFor(8), 50);
            }
        });
        test("13: the least count would be at most n", EdgesTest::sizeForIsTheLeast);
        test("13: NONE when n is not 1 .. 8", () -> {
            for (int n : NEVER_A_COUNT) {
                Check.unchanged("sizeFor(" + n + ") with some items", SOME, d -> d.sizeFor(n), BinDesk.NONE);
                Check.unchanged("sizeFor(" + n + ") with eight items", EIGHT, d -> d.sizeFor(n), BinDesk.NONE);
            }
        });
        test("13: NONE when n is not 1 .. 8 [but it is]", () -> {
            Check.unchanged("sizeFor(1)", EIGHT, d -> d.sizeFor(1), 44);
            Check.unchanged("sizeFor(8)", EIGHT, d -> d.sizeFor(8), 9);
        });
        test("13: NONE when ... there are no items", () -> {
            for (int n = -1; n <= 9; n++) {
                int count = n;
                Check.unchanged("sizeFor(" + n + ")", EMPTY, d -> d.sizeFor(count), BinDesk.NONE);
                Check.unchanged("sizeFor(" + n + ") when all are gone", EMPTIED, d -> d.sizeFor(count), BinDesk.NONE);
            }
        });
        test("13: The least size that the bins could have [they keep theirs]", () ->
            Check.unchanged("sizeFor(2)", SOME, d -> d.sizeFor(2), 12));
    }

    /** In bins of the size that sizeFor names n are enough; in those smaller by 1 they are not. */
    private static void sizeForIsTheLeast() {
        int[][] rows = {
            {3}, {7, 5, 4, 2}, {3, 3, 2, 2, 2}, {4, 4, 4, 3, 3}, {1, 1, 1, 1, 1, 1, 1, 1}, {9, 8, 7, 6, 5, 4, 3, 2}
        };
        for (int[] row : rows) {
            for (int n = 1; n <= 8; n++) {
                Desk desk = Desk.of(10, row);
                int answer = desk.sizeFor(n);
                String call = "least() of " + row.length + " items in bins of sizeFor(" + n + ")";
                Check.due("setSize(sizeFor(" + n + "))", desk.setSize(answer), true);
                Check.due(call + " is at most " + n, desk.least() <= n, true);
                if (desk.setSize(answer - 1)) {
                    Check.due(call + " less 1 is greater than " + n, desk.least() > n, true);
                }
            }
        }
    }

    private static void together() {
        test("14: false when there is no item i", () ->
            forNoItem("together with 0", (d, i) -> d.together(i, 0), false));
        test("14: false when there is no item ... j", () ->
            forNoItem("together, beside 0,", (d, j) -> d.together(0, j), false));
        test("14: false when there is no item i or j [neither]", () -> {
            Check.unchanged("together(1, 4)", SOME, d -> d.together(1, 4), false);
            Check.unchanged("together(6, 7)", SOME, d -> d.together(6, 7), false);
            Check.unchanged("together(-1, 8)", SOME, d -> d.together(-1, 8), false);
            Check.unchanged("together(32, 34)", SOME, d -> d.together(32, 34), false);
            Check.unchanged("together(0, 1) with no items", EMPTY, d -> d.together(0, 1), false);
        });
        test("14: and when i = j", () -> {
            for (int i = 0; i <= 7; i++) {
                int number = i;
                String call = "together(" + i + ", " + i + ")";
                Check.unchanged(call, EIGHT, d -> d.together(number, number), false);
                Check.unchanged(call + " alone", () -> alone(number), d -> d.together(number, number), false);
                Check.unchanged(call + " with no items", EMPTY, d -> d.together(number, number), false);
            }
            for (int i : NO_ITEM_NUMBERS) {
                Check.unchanged("together(" + i + ", " + i + ")", SOME, d -> d.together(i, i), false);
            }
        });
        test("14: the items i and j the same bin [just full]", () -> {
            Check.due("together(0, 1) of 6 and 4 in bins of 10", Desk.of(10, 6, 4).together(0, 1), true);
            Check.due("together(0, 1) of 6 and 5 in bins of 10", Desk.of(10, 6, 5).together(0, 1), false);
        });
        test("14: some packing whose count is the least count", () -> {
            // 4 and 3 fit together, but 6 and 5 then need a bin each.
            Check.due("together(2, 3) with a bin too many", Desk.of(10, 6, 5, 4, 3).together(2, 3), false);
            Check.due("together(2, 3) with the last bin for item 7",
                Desk.of(10, 6, 5, 4, 3, 0, 0, 0, 10).together(2, 3), false);
            Check.due("together(2, 3) with four bins for three", Desk.of(10, 6, 6, 4, 3, 9).together(2, 3), false);
            Check.due("together(2, 3) with three bins due anyway", Desk.of(10, 6, 5, 4, 3, 4).together(2, 3), true);
        });
    }

    private static void orderAndLimits() {
        test("15: In add NONE ... is tested before FULL; neither changes anything.", () -> {
            Check.unchanged("add(0) with eight there", EIGHT, d -> d.add(0), BinDesk.NONE);
            Check.unchanged("add(11) with eight there", EIGHT, d -> d.add(11), BinDesk.NONE);
            Check.unchanged("add(10) with eight there", EIGHT, d -> d.add(10), BinDesk.FULL);
            Check.unchanged("add(1) with eight there", EIGHT, d -> d.add(1), BinDesk.FULL);
            for (int s : NEVER_A_SIZE) {
                Check.unchanged("add(" + s + ") with eight there", EIGHT, d -> d.add(s), BinDesk.NONE);
            }
        });
        test("15: leastWithout answers 0 when item i is the only one", () -> {
            for (int only = 0; only <= 7; only++) {
                int number = only;
                Check.unchanged("leastWithout(" + only + ")", () -> alone(number), d -> d.leastWithout(number), 0);
            }
            Check.due("leastWithout(0) when there is another", Desk.of(10, 3, 3).leastWithout(0), 1);
        });
        test("15: spare answers 0 when there are no items", () -> {
            for (int size = 1; size <= 60; size++) {
                Check.due("spare() in bins of " + size, new Desk(size).spare(), 0);
            }
            Check.unchanged("spare() when all are gone", EMPTIED, d -> d.spare(), 0);
        });
        test("15: a call that is refused ... changes nothing", EdgesTest::manyRefusals);
        test("15: sizeFor: the answer may be more than 60", () -> {
            Check.due("sizeFor(1) of 60", Desk.of(60, 30, 30).sizeFor(1), 60);
            Check.due("sizeFor(1) of 61", Desk.of(60, 31, 30).sizeFor(1), 61);
            Check.due("sizeFor(1) of 128", Desk.of(60, 60, 60, 8).sizeFor(1), 128);
            Desk eight = Desk.of(60, 60, 60, 60, 60, 60, 60, 60, 60);
            int[] due = {480, 240, 180, 120, 120, 120, 120, 60};
            for (int n = 1; n <= 8; n++) {
                Check.due("sizeFor(" + n + ") of eight of 60", eight.sizeFor(n), due[n - 1]);
            }
            Check.due("size() after it", eight.size(), 60);
        });
        test("15: refused (by a code below 0 that is named", () -> {
            Check.due("NONE", BinDesk.NONE, -1);
            Check.due("FULL", BinDesk.FULL, -2);
        });
    }

    /** One refusal after the other leaves no trace either. */
    private static void manyRefusals() {
        Supplier<Desk> refusedOften = () -> {
            Desk desk = SOME.get();
            desk.add(0);
            desk.add(11);
            desk.remove(1);
            desk.remove(8);
            desk.resize(1, 5);
            desk.resize(0, 11);
            desk.setSize(8);
            desk.setSize(61);
            desk.sizeOf(4);
            desk.binOf(-1);
            desk.leastWithout(7);
            desk.sizeFor(0);
            desk.sizeFor(9);
            desk.together(0, 0);
            desk.together(0, 1);
            return desk;
        };
        Check.due("all there is to ask after them", refusedOften.get().answers(), SOME.get().answers());
        Check.due("add(10) after them", refusedOften.get().add(10), 1);
        Check.due("setSize(9) after them", refusedOften.get().setSize(9), true);
        Desk full = EIGHT.get();
        full.add(10);
        full.add(11);
        full.remove(0);
        Check.due("add(10) after FULL and NONE, with a number free again,", full.add(10), 0);
    }
}

/** Each promise of the document by hand-made runs of ordinary calls; the edges are in EdgesTest. */
public final class PromisesTest {
    public static void main(String[] args) {
        newObject();
        add();
        remove();
        resize();
        setSize();
        size();
        items();
        sizeOf();
        least();
        binOf();
        leastWithout();
        spare();
        sizeFor();
        together();
        questionsChangeNothing();
        Check.end();
    }

    private static void newObject() {
        Check.of("promise 1");
        Desk desk = new Desk(37);
        Check.due("size()", desk.size(), 37);
        Check.due("items()", desk.items(), 0);
    }

    private static void add() {
        Check.of("promise 2");
        Desk desk = new Desk(12);
        for (int i = 0; i < 8; i++) {
            Check.due("add, time " + (i + 1) + ",", desk.add(i + 1), i);
            Check.due("sizeOf(" + i + ")", desk.sizeOf(i), i + 1);
        }
        desk.remove(5);
        desk.remove(2);
        Check.due("add with 2 and 5 free", desk.add(12), 2);
        Check.due("sizeOf(2)", desk.sizeOf(2), 12);
        Check.due("add with 5 free", desk.add(1), 5);
        Check.due("sizeOf(5)", desk.sizeOf(5), 1);
    }

    private static void remove() {
        Check.of("promise 3");
        Desk desk = Desk.of(10, 6, 5, 4);
        Check.due("remove(1)", desk.remove(1), true);
        Check.due("items()", desk.items(), 0b101);
        Check.due("sizeOf(1)", desk.sizeOf(1), BinDesk.NONE);
        Check.due("sizeOf(0)", desk.sizeOf(0), 6);
        Check.due("sizeOf(2)", desk.sizeOf(2), 4);
        Check.due("least()", desk.least(), 1);
        Check.due("remove(0)", desk.remove(0), true);
        Check.due("remove(2)", desk.remove(2), true);
        Check.due("items() when all are gone", desk.items(), 0);
    }

    private static void resize() {
        Check.of("promise 4");
        Desk desk = Desk.of(10, 6, 5);
        Check.due("resize(1, 4)", desk.resize(1, 4), true);
        Check.due("sizeOf(1)", desk.sizeOf(1), 4);
        Check.due("sizeOf(0)", desk.sizeOf(0), 6);
        Check.due("least()", desk.least(), 1);
        Check.due("resize(0, 7)", desk.resize(0, 7), true);
        Check.due("least() then", desk.least(), 2);
        Check.due("items()", desk.items(), 0b11);
    }

    private static void setSize() {
        Check.of("promise 5");
        Desk desk = Desk.of(20, 9, 7, 4);
        Check.due("least() in bins of 20", desk.least(), 1);
        Check.due("setSize(13)", desk.setSize(13), true);
        Check.due("size()", desk.size(), 13);
        Check.due("least() in bins of 13", desk.least(), 2);
        Check.due("setSize(9)", desk.setSize(9), true);
        Check.due("least() in bins of 9", desk.least(), 3);
        Check.due("sizeOf(0)", desk.sizeOf(0), 9);
        Check.due("items()", desk.items(), 0b111);
    }

    private static void size() {
        Check.of("promise 6");
        Desk desk = new Desk(17);
        desk.add(17);
        desk.add(18);
        Check.due("size() after adds", desk.size(), 17);
        desk.setSize(18);
        Check.due("size() after setSize(18)", desk.size(), 18);
        desk.setSize(16);
        Check.due("size() after a setSize that was refused", desk.size(), 18);
        desk.sizeFor(1);
        desk.remove(0);
        Check.due("size() after the rest", desk.size(), 18);
    }

    private static void items() {
        Check.of("promise 7");
        Desk desk = new Desk(9);
        int[] after = {1, 3, 7, 15, 31, 63, 127, 255};
        for (int i = 0; i < 8; i++) {
            desk.add(9 - i);
            Check.due("items() after " + (i + 1) + " adds", desk.items(), after[i]);
        }
        desk.remove(0);
        Check.due("items() without 0", desk.items(), 254);
        desk.remove(6);
        Check.due("items() without 0 and 6", desk.items(), 190);
        desk.resize(3, 1);
        desk.setSize(50);
        Check.due("items() after resize and setSize", desk.items(), 190);
        desk.add(1);
        Check.due("items() with 0 again", desk.items(), 191);
    }

    private static void sizeOf() {
        Check.of("promise 8");
        Desk desk = Desk.of(60, 60, 1, 30);
        Check.due("sizeOf(0)", desk.sizeOf(0), 60);
        Check.due("sizeOf(1)", desk.sizeOf(1), 1);
        Check.due("sizeOf(2)", desk.sizeOf(2), 30);
        desk.remove(0);
        desk.add(7);
        Check.due("sizeOf(0) of the new item 0", desk.sizeOf(0), 7);
    }

    private static void least() {
        Check.of("promise 9");
        Check.due("least() of eight of 1 in bins of 7", Desk.of(7, 1, 1, 1, 1, 1, 1, 1, 1).least(), 2);
        Check.due("least() of eight of 30 in bins of 60", Desk.of(60, 30, 30, 30, 30, 30, 30, 30, 30).least(), 4);
        // Putting every item into the first bin with room takes three bins here.
        Check.due("least(), first fit is not it,", Desk.of(10, 3, 3, 6, 4, 4).least(), 2);
        Check.due("least(), nor the largest first,", Desk.of(10, 4, 4, 3, 3, 3, 3).least(), 2);
        Check.due("least(), nor the sum alone,", Desk.of(10, 6, 6, 6).least(), 3);
        Check.due("least() with numbers free", Desk.of(10, 0, 5, 0, 5, 0).least(), 1);
    }

    private static void binOf() {
        Check.of("promise 10");
        Check.due("bins, each in its own,", Desk.of(5, 5, 5, 5).bins(), "0 1 2 . . . . .");
        Check.due("bins, all in one,", Desk.of(60, 5, 5, 5).bins(), "0 0 0 . . . . .");
        Check.due("bins, first fit is no least count,", Desk.of(10, 3, 3, 6, 4, 4).bins(), "0 0 1 0 1 . . .");
        // Filling bin 0 as early as can be, then bin 1, would give other packings here.
        Check.due("bins, read item by item,", Desk.of(10, 4, 3, 2, 7, 5, 6, 6).bins(), "0 1 1 2 1 0 3 .");
        Check.due("bins, eight of them,", Desk.of(10, 2, 6, 5, 4, 1, 4, 5, 2).bins(), "0 0 1 1 1 2 2 0");
        Check.due("bins, seven of them,", Desk.of(12, 5, 4, 2, 6, 7, 8, 9).bins(), "0 1 1 1 0 2 3 .");

        Desk gaps = Desk.of(10, 0, 6, 0, 5, 4);
        Check.due("bins with numbers free", gaps.bins(), ". 0 . 1 0 . . .");
        gaps.remove(1);
        Check.due("bins when another goes", gaps.bins(), ". . . 0 0 . . .");
        gaps.add(6);
        Check.due("bins when one comes before them", gaps.bins(), "0 . . 1 0 . . .");

        Desk changed = Desk.of(10, 6, 4, 5);
        Check.due("bins before a change", changed.bins(), "0 0 1 . . . . .");
        changed.resize(1, 5);
        Check.due("bins after resize", changed.bins(), "0 1 1 . . . . .");
        changed.setSize(16);
        Check.due("bins after setSize", changed.bins(), "0 0 0 . . . . .");
    }

    private static void leastWithout() {
        Check.of("promise 11");
        Desk desk = Desk.of(10, 6, 6, 4, 5);
        Check.due("least()", desk.least(), 3);
        Check.due("leastWithout(0)", desk.leastWithout(0), 2);
        Check.due("leastWithout(1)", desk.leastWithout(1), 2);
        Check.due("leastWithout(2)", desk.leastWithout(2), 3);
        Check.due("leastWithout(3)", desk.leastWithout(3), 2);
        Check.due("binOf(3), still of all items,", desk.binOf(3), 2);
        desk.remove(0);
        Check.due("leastWithout(3) when 0 is gone", desk.leastWithout(3), 1);
        Check.due("leastWithout(7) of eight apart", Desk.of(1, 1, 1, 1, 1, 1, 1, 1, 1).leastWithout(7), 7);
    }

    private static void spare() {
        Check.of("promise 12");
        Check.due("spare() beside 3", Desk.of(10, 3).spare(), 7);
        Check.due("spare(), the room of one bin and not of all,", Desk.of(10, 7, 6).spare(), 4);
        Check.due("spare(), in the middle one of three,", Desk.of(10, 9, 6, 8).spare(), 4);
        // The first packing, 5+3 and 5+4, leaves 2; 5+5 and 3+4 leave 3.
        Check.due("spare(), not of the first packing alone,", Desk.of(10, 5, 3, 5, 4).spare(), 3);
        Check.due("spare() of eight", Desk.of(20, 1, 2, 3, 4, 5, 6, 7, 8).spare(), 4);
        Desk gaps = Desk.of(10, 0, 4, 0, 5);
        Check.due("spare() with numbers free", gaps.spare(), 1);
        gaps.setSize(30);
        Check.due("spare() after setSize", gaps.spare(), 21);
    }

    private static void sizeFor() {
        Check.of("promise 13");
        Desk desk = Desk.of(10, 7, 5, 4, 2);
        int[] due = {18, 9, 7, 7, 7, 7, 7, 7};
        for (int n = 1; n <= 8; n++) {
            Check.due("sizeFor(" + n + ")", desk.sizeFor(n), due[n - 1]);
        }
        desk.setSize(50);
        Check.due("sizeFor(2), whatever size the bins have,", desk.sizeFor(2), 9);
        desk.remove(0);
        Check.due("sizeFor(8) when the largest is gone", desk.sizeFor(8), 5);
        Check.due("sizeFor(1) when the largest is gone", desk.sizeFor(1), 11);
        Check.due("sizeFor(3), the middle one of three is largest,", Desk.of(10, 6, 9, 8).sizeFor(3), 9);
        Desk eight = Desk.of(1, 1, 1, 1, 1, 1, 1, 1, 1);
        int[] ones = {8, 4, 3, 2, 2, 2, 2, 1};
        for (int n = 1; n <= 8; n++) {
            Check.due("sizeFor(" + n + ") of eight of 1", eight.sizeFor(n), ones[n - 1]);
        }
        Check.due("sizeFor(2), the largest first is not best,", Desk.of(10, 3, 3, 2, 2, 2).sizeFor(2), 6);
    }

    private static void together() {
        Check.of("promise 14");
        Desk desk = Desk.of(10, 6, 5, 4, 3);
        Check.due("together(0, 1), too large,", desk.together(0, 1), false);
        Check.due("together(0, 2)", desk.together(0, 2), true);
        Check.due("together(2, 0)", desk.together(2, 0), true);
        Check.due("together(0, 3), not in the first packing,", desk.together(0, 3), true);
        Check.due("together(1, 2), not in the first packing,", desk.together(1, 2), true);
        desk.remove(0);
        desk.setSize(12);
        Check.due("together(2, 3) when one bin is enough", desk.together(2, 3), true);
        Desk eight = Desk.of(60, 30, 20, 20, 20, 15, 15, 30, 30);
        Check.due("together(0, 7)", eight.together(0, 7), true);
        Check.due("together(1, 7)", eight.together(1, 7), false);
        Check.due("together(3, 1)", eight.together(3, 1), true);
    }

    private static void questionsChangeNothing() {
        Check.of("promises 6 to 14");
        Desk[] desks = {
            new Desk(5), Desk.of(10, 3), Desk.of(10, 6, 0, 4, 3, 0, 9), Desk.of(20, 9, 8, 7, 6, 5, 4, 3, 2)
        };
        for (Desk desk : desks) {
            Check.due("all there is to ask, the second time,", desk.answers(), desk.answers());
        }
    }
}

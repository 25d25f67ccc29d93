/** A BinDesk that holds the tests to what is promised: nothing is, after an object's 512th call. */
final class Desk {
    static final int MOST_CALLS = 512;

    private final BinDesk desk;
    private int calls = 0;

    Desk(int size) {
        desk = new BinDesk(size);
    }

    /** A desk with items of these sizes; a size of 0 leaves its number free. */
    static Desk of(int size, int... sizes) {
        Desk made = new Desk(size);
        for (int s : sizes) {
            made.add(s == 0 ? 1 : s);
        }
        for (int i = 0; i < sizes.length; i++) {
            if (sizes[i] == 0) {
                made.remove(i);
            }
        }
        return made;
    }

    private BinDesk called() {
        if (calls == MOST_CALLS) {
            throw new IllegalStateException("the test makes more calls than are promised to be answered");
        }
        calls++;
        return desk;
    }

    int calls() {
        return calls;
    }

    int add(int s) {
        return called().add(s);
    }

    boolean remove(int i) {
        return called().remove(i);
    }

    boolean resize(int i, int s) {
        return called().resize(i, s);
    }

    boolean setSize(int size) {
        return called().setSize(size);
    }

    int size() {
        return called().size();
    }

    int items() {
        return called().items();
    }

    int sizeOf(int i) {
        return called().sizeOf(i);
    }

    int least() {
        return called().least();
    }

    int binOf(int i) {
        return called().binOf(i);
    }

    int leastWithout(int i) {
        return called().leastWithout(i);
    }

    int spare() {
        return called().spare();
    }

    int sizeFor(int n) {
        return called().sizeFor(n);
    }

    boolean together(int i, int j) {
        return called().together(i, j);
    }

    /** The bins of the items 0 .. 7 in one text, '.' where there is no item. */
    String bins() {
        StringBuilder text = new StringBuilder();
        for (int i = 0; i < 8; i++) {
            int bin = binOf(i);
            text.append(i == 0 ? "" : " ").append(bin == BinDesk.NONE ? "." : bin);
        }
        return text.toString();
    }

    /** Every answer that the object has to give, in one text. */
    String answers() {
        StringBuilder text = new StringBuilder();
        text.append("size ").append(size()).append(" items ").append(items());
        text.append(" least ").append(least()).append(" spare ").append(spare());
        for (int i = 0; i < 8; i++) {
            text.append(" | ").append(i).append(": ").append(sizeOf(i)).append(' ').append(binOf(i));
            text.append(' ').append(leastWithout(i)).append(' ').append(sizeFor(i + 1)).append(' ');
            for (int j = 0; j < i; j++) {
                text.append(together(i, j) ? '+' : '-');
            }
        }
        return text.toString();
    }
}

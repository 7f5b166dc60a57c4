/** A DumpDesk that counts its calls: behind the 512th nothing is promised, so no test may look there. */
final class Desk {
    private static final int PROMISED = 512;

    private final DumpDesk inner = new DumpDesk();
    private int calls = 0;

    private DumpDesk next() {
        calls++;
        if (calls > PROMISED) {
            throw new AssertionError("a test makes more than 512 calls of one object");
        }
        return inner;
    }

    int callsLeft() {
        return PROMISED - calls;
    }

    int taskNew(int priority) {
        return next().taskNew(priority);
    }

    int taskEnd(int i) {
        return next().taskEnd(i);
    }

    void waitOn(int i, int queue) {
        next().waitOn(i, queue);
    }

    int wake(int queue) {
        return next().wake(queue);
    }

    void timer(int due) {
        next().timer(due);
    }

    int file(boolean dirty, int seed) {
        return next().file(dirty, seed);
    }

    void log(int word) {
        next().log(word);
    }

    void poke(int address, int word) {
        next().poke(address, word);
    }

    int memory(int address) {
        return next().memory(address);
    }

    void halt() {
        next().halt();
    }

    void sector(int sector, boolean bad) {
        next().sector(sector, bad);
    }

    int dump(int power) {
        return next().dump(power);
    }

    int area(int sector, int word) {
        return next().area(sector, word);
    }

    int attach() {
        return next().attach();
    }

    int word(int address) {
        return next().word(address);
    }

    int walk(int list) {
        return next().walk(list);
    }

    int broken(int what) {
        return next().broken(what);
    }

    int node(int k, int what) {
        return next().node(k, what);
    }
}

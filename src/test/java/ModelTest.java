import java.util.Random;
import java.util.function.IntSupplier;

/** All promises together: random runs, each answer and all the state against the Model. */
public final class ModelTest {
    private static final Check CHECK = new Check("ModelTest");
    private static final int RUNS = 3000;
    private static final int CALLS = 200;

    private final Random random;
    private final DumpDesk desk = new DumpDesk();
    private final Model model = new Model();
    private final String run;

    private ModelTest(int seed) {
        random = new Random(seed);
        run = "run " + seed + ": ";
    }

    public static void main(String[] args) {
        for (int seed = 0; seed < RUNS; seed++) {
            new ModelTest(seed).play(seed);
        }
        CHECK.end();
    }

    private void play(int seed) {
        int kernelCalls = random.nextInt(CALLS);
        int taskShare = random.nextInt(5);
        for (int k = 0; k < kernelCalls; k++) {
            kernelCall(random.nextInt(8) < taskShare ? 0 : random.nextInt(8));
        }
        sameMemory();
        if (seed % 3 != 0) {
            damage(1 + random.nextInt(12));
        }
        if (random.nextInt(10) == 0) {
            areaCall(random.nextInt(8));
        }
        both("halt()", () -> { desk.halt(); return 0; }, () -> { model.halt(); return 0; });
        kernelCall(random.nextInt(9));
        for (int k = 0; k < 40; k++) {
            areaCall(random.nextInt(8));
        }
        sameMemory();
        sameArea();
    }

    private static String outcome(IntSupplier call) {
        try {
            return String.valueOf(call.getAsInt());
        } catch (RuntimeException e) {
            return e.getClass().getSimpleName();
        }
    }

    private void both(String call, IntSupplier onDesk, IntSupplier onModel) {
        CHECK.same(run + call, outcome(onDesk), outcome(onModel));
    }

    private int some(int bound) {
        return random.nextInt(40) == 0 ? random.nextInt() : random.nextInt(bound + 2) - 1;
    }

    private int value() {
        return random.nextInt(8) == 0 ? random.nextInt() : random.nextInt(7) - 3;
    }

    private void kernelCall(int which) {
        int a = which < 4 ? some(12) : value();
        int b = some(4);
        boolean flag = random.nextBoolean();
        switch (which) {
            case 0 -> both("taskNew", () -> desk.taskNew(a), () -> model.taskNew(a));
            case 1 -> both("taskEnd(" + a + ")", () -> desk.taskEnd(a), () -> model.taskEnd(a));
            case 2, 3 -> both("waitOn(" + a + ", " + b + ")", () -> { desk.waitOn(a, b); return 0; },
                    () -> { model.waitOn(a, b); return 0; });
            case 4 -> both("wake(" + b + ")", () -> desk.wake(b), () -> model.wake(b));
            case 5 -> both("timer", () -> { desk.timer(a); return 0; }, () -> { model.timer(a); return 0; });
            case 6 -> {
                if (random.nextInt(4) == 0) {
                    both("file", () -> desk.file(flag, a), () -> model.file(flag, a));
                }
            }
            case 7 -> both("log", () -> { desk.log(a); return 0; }, () -> { model.log(a); return 0; });
            default -> poke(some(256), value());
        }
    }

    private void poke(int address, int word) {
        both("poke(" + address + ", " + word + ")", () -> { desk.poke(address, word); return 0; },
                () -> { model.poke(address, word); return 0; });
    }

    /** Mostly words that hurt: links, heads, tags and flags. */
    private void damage(int pokes) {
        for (int k = 0; k < pokes; k++) {
            switch (random.nextInt(5)) {
                case 0 -> poke(random.nextInt(6), 4 * random.nextInt(64));
                case 1 -> poke(16 + 4 * random.nextInt(56) + 1, 4 * random.nextInt(64));
                case 2 -> poke(16 + 4 * random.nextInt(56), 7000 + random.nextInt(5));
                case 3 -> poke(8 + random.nextInt(8), random.nextInt(5) + 256 * random.nextInt(5));
                default -> poke(some(256), value());
            }
        }
    }

    private void areaCall(int which) {
        int a = some(which == 0 ? 96 : 6);
        switch (which) {
            case 0 -> badSector(a, random.nextInt(3) > 0);
            case 1 -> badSector(random.nextInt(12), random.nextBoolean());
            case 2, 3 -> dump();
            case 4 -> both("attach()", desk::attach, model::attach);
            case 5 -> sameWords();
            default -> {
                both("walk(" + a + ")", () -> desk.walk(a), () -> model.walk(a));
                sameWalk();
            }
        }
    }

    private void dump() {
        int power = random.nextInt(3) == 0 ? 200 : some(60);
        if (random.nextInt(6) == 0) {
            int from = random.nextInt(40);
            for (int sector = from; sector < 96; sector++) {
                badSector(sector, true);
            }
        }
        both("dump(" + power + ")", () -> desk.dump(power), () -> model.dump(power));
        both("attach()", desk::attach, model::attach);
    }

    private void badSector(int sector, boolean bad) {
        both("sector(" + sector + ", " + bad + ")", () -> { desk.sector(sector, bad); return 0; },
                () -> { model.sector(sector, bad); return 0; });
    }

    private void sameMemory() {
        for (int address = -1; address <= 256; address++) {
            int at = address;
            both("memory(" + at + ")", () -> desk.memory(at), () -> model.memory(at));
        }
    }

    private void sameArea() {
        for (int sector = -1; sector <= 96; sector++) {
            for (int word = -1; word <= 8; word++) {
                int s = sector;
                int w = word;
                both("area(" + s + ", " + w + ")", () -> desk.area(s, w), () -> model.area(s, w));
            }
        }
    }

    private void sameWords() {
        for (int address = -1; address <= 256; address += 1 + random.nextInt(5)) {
            int at = address;
            both("word(" + at + ")", () -> desk.word(at), () -> model.word(at));
        }
    }

    private void sameWalk() {
        for (int what = -1; what <= 2; what++) {
            int w = what;
            both("broken(" + w + ")", () -> desk.broken(w), () -> model.broken(w));
        }
        for (int node = -1; node <= 56; node++) {
            int k = node;
            int w = random.nextInt(5) - 1;
            both("node(" + k + ", " + w + ")", () -> desk.node(k, w), () -> model.node(k, w));
        }
    }
}

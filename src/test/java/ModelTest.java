import java.util.Random;
import java.util.function.IntSupplier;

/**
 * All promises together: random runs of at most 512 calls, each answer against the Model's. Where two things are wrong
 * with a call and the document does not say which one is told, the call is not made.
 */
public final class ModelTest {
    private static final Check CHECK = new Check("ModelTest");
    private static final int RUNS = 6000;
    private static final int KERNEL_CALLS = 200;
    private static final int AREA_CALLS = 30;

    private final Random random;
    private final Desk desk = new Desk();
    private final Model model = new Model();
    private final String run;

    private ModelTest(int seed) {
        random = new Random(seed);
        run = "run " + seed + ": ";
    }

    public static void main(String[] args) {
        CHECK.sentence("all promises", () -> {
            for (int seed = 0; seed < RUNS; seed++) {
                new ModelTest(seed).play(seed);
            }
        });
        CHECK.end();
    }

    private void play(int seed) {
        int kernelCalls = random.nextInt(KERNEL_CALLS);
        int taskShare = random.nextInt(5);
        for (int k = 0; k < kernelCalls; k++) {
            kernelCall(random.nextInt(8) < taskShare ? 0 : random.nextInt(8));
        }
        if (seed % 3 != 0) {
            damage(1 + random.nextInt(12));
        }
        if (random.nextInt(10) == 0) {
            areaCall(random.nextInt(8));
        }
        both("halt()", () -> { desk.halt(); return 0; }, () -> { model.halt(); return 0; });
        kernelCall(random.nextInt(9));
        for (int k = 0; k < AREA_CALLS; k++) {
            areaCall(random.nextInt(8));
        }
        if (seed % 2 == 0) {
            sameMemory(random.nextInt(256));
        } else {
            sameArea(random.nextInt(96));
        }
    }

    private static String outcome(IntSupplier call) {
        try {
            return String.valueOf(call.getAsInt());
        } catch (RuntimeException e) {
            return e.getClass().getSimpleName();
        }
    }

    private void both(String call, IntSupplier onDesk, IntSupplier onModel) {
        if (desk.callsLeft() > 0) {
            CHECK.same(run + call, outcome(onDesk), outcome(onModel));
        }
    }

    private int some(int bound) {
        return random.nextInt(40) == 0 ? random.nextInt() : random.nextInt(bound + 2) - 1;
    }

    private int value() {
        return random.nextInt(8) == 0 ? random.nextInt() : random.nextInt(7) - 3;
    }

    private void kernelCall(int which) {
        int a = which < 4 ? some(12) : value();
        int b = some(4);
        boolean flag = random.nextBoolean();
        switch (which) {
            case 0 -> both("taskNew", () -> desk.taskNew(a), () -> model.taskNew(a));
            case 1 -> both("taskEnd(" + a + ")", () -> desk.taskEnd(a), () -> model.taskEnd(a));
            case 2, 3 -> waitOn(a, model.runsOn() && !model.hasTask(a) ? random.nextInt(4) : b);
            case 4 -> both("wake(" + b + ")", () -> desk.wake(b), () -> model.wake(b));
            case 5 -> both("timer", () -> { desk.timer(a); return 0; }, () -> { model.timer(a); return 0; });
            case 6 -> {
                if (random.nextInt(4) == 0) {
                    both("file", () -> desk.file(flag, a), () -> model.file(flag, a));
                }
            }
            case 7 -> both("log", () -> { desk.log(a); return 0; }, () -> { model.log(a); return 0; });
            default -> poke(model.isHalted() ? random.nextInt(256) : some(256), value());
        }
    }

    private void waitOn(int i, int queue) {
        both("waitOn(" + i + ", " + queue + ")", () -> { desk.waitOn(i, queue); return 0; },
                () -> { model.waitOn(i, queue); return 0; });
    }

    private void poke(int address, int word) {
        both("poke(" + address + ", " + word + ")", () -> { desk.poke(address, word); return 0; },
                () -> { model.poke(address, word); return 0; });
    }

    /** Mostly words that hurt: links, heads, tags and flags. */
    private void damage(int pokes) {
        for (int k = 0; k < pokes; k++) {
            switch (random.nextInt(5)) {
                case 0 -> poke(random.nextInt(6), 4 * random.nextInt(64));
                case 1 -> poke(16 + 4 * random.nextInt(56) + 1, 4 * random.nextInt(64));
                case 2 -> poke(16 + 4 * random.nextInt(56), 7000 + random.nextInt(5));
                case 3 -> poke(8 + random.nextInt(8), random.nextInt(5) + 256 * random.nextInt(5));
                default -> poke(some(256), value());
            }
        }
    }

    private void areaCall(int which) {
        switch (which) {
            case 0 -> badSector(some(96), random.nextInt(3) > 0);
            case 1 -> badSector(random.nextInt(12), random.nextBoolean());
            case 2, 3 -> dump();
            case 4 -> both("attach()", desk::attach, model::attach);
            case 5 -> someWords();
            default -> walk(model.hasPageZero() ? some(6) : random.nextInt(6));
        }
    }

    private void dump() {
        int power = !model.isHalted() ? random.nextInt(201) : random.nextInt(3) == 0 ? 200 : some(60);
        if (random.nextInt(12) == 0) {
            int from = random.nextInt(40);
            for (int sector = from; sector < 96; sector++) {
                badSector(sector, true);
            }
        }
        both("dump(" + power + ")", () -> desk.dump(power), () -> model.dump(power));
        both("attach()", desk::attach, model::attach);
    }

    private void badSector(int sector, boolean bad) {
        both("sector(" + sector + ", " + bad + ")", () -> { desk.sector(sector, bad); return 0; },
                () -> { model.sector(sector, bad); return 0; });
    }

    private void sameMemory(int from) {
        for (int k = 0; desk.callsLeft() > 0 && k < 258; k++) {
            int at = (from + k) % 258 - 1;
            both("memory(" + at + ")", () -> desk.memory(at), () -> model.memory(at));
        }
    }

    private void sameArea(int from) {
        for (int k = 0; desk.callsLeft() > 0 && k < 96 * 8; k++) {
            int s = (from + k / 8) % 96;
            int w = k % 8;
            both("area(" + s + ", " + w + ")", () -> desk.area(s, w), () -> model.area(s, w));
        }
    }

    private void someWords() {
        for (int k = 0; k < 10; k++) {
            int at = some(256);
            both("word(" + at + ")", () -> desk.word(at), () -> model.word(at));
        }
    }

    private void walk(int list) {
        both("walk(" + list + ")", () -> desk.walk(list), () -> model.walk(list));
        int what = model.isWalked() ? some(2) : random.nextInt(2);
        both("broken(0)", () -> desk.broken(0), () -> model.broken(0));
        both("broken(1)", () -> desk.broken(1), () -> model.broken(1));
        both("broken(" + what + ")", () -> desk.broken(what), () -> model.broken(what));
        for (int k = 0; k < 4; k++) {
            int node = some(8);
            int w = model.hasNode(node) ? some(3) : random.nextInt(3);
            both("node(" + node + ", " + w + ")", () -> desk.node(node, w), () -> model.node(node, w));
        }
    }
}

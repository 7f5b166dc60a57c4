import java.util.ArrayList;
import java.util.EnumSet;
import java.util.LinkedHashMap;
import java.util.List;
import java.util.Map;
import java.util.Set;
import java.util.TreeSet;

/** All promises: what a call does not change. Of two objects in the same state one gets the call, as in Refusal. */
public final class SideEffectTest {
    private static final Check CHECK = new Check("SideEffectTest");
    private static final int MAX = Integer.MAX_VALUE;

    private static final Set<Probe> ALL = EnumSet.allOf(Probe.class);
    private static final Set<Probe> AREA = EnumSet.of(Probe.AREA_LOW, Probe.AREA_MIDDLE, Probe.AREA_HIGH);
    private static final Set<Probe> SECTORS = EnumSet.of(Probe.SECTORS, Probe.LAST_SECTORS, Probe.DUMP);
    private static final Set<Probe> WALKER = EnumSet.of(Probe.WORDS, Probe.WALKED);

    private static final Map<String, Refusal.Scene> RUNNING = Map.of(
            "new", Scenes::empty, "busy", Scenes::busy, "bad sectors", Scenes::withBadSectors,
            "full of nodes", Scenes::fullOfNodes, "full of files", Scenes::fullOfFiles);
    private static final Map<String, Refusal.Scene> HALTED = Map.of(
            "halted", Scenes::halted, "dumped", Scenes::dumped, "attached", Scenes::attached,
            "walked", Scenes::walked, "walked, broken", Scenes::walkedBroken,
            "without page 0", Scenes::withoutPageZero);

    public static void main(String[] args) {
        CHECK.sentence("Nothing is promised beyond the answers and state changes described above: questions",
                SideEffectTest::questions);
        CHECK.sentence("refused once it is halted; nothing is done then", SideEffectTest::refusedWhenHalted);
        CHECK.sentence("after a poke the kernel's calls are refused, too", SideEffectTest::refusedWhenPoked);
        CHECK.sentence("IllegalArgumentException, NoSuchElementException: nothing is done", SideEffectTest::wrongInputs);
        CHECK.sentence("THE KERNEL's calls: the words that each of them changes", SideEffectTest::kernelWords);
        CHECK.sentence("THE KERNEL's calls: memory alone", SideEffectTest::kernelAlone);
        CHECK.sentence("poke: Writes a word of memory", SideEffectTest::pokes);
        CHECK.sentence("halt: HALTED, memory stays as it is", SideEffectTest::halts);
        CHECK.sentence("sector: A sector is bad from now on (or not any more)", SideEffectTest::sectors);
        CHECK.sentence("sector: from now on, whatever is called", SideEffectTest::fromNowOn);
        CHECK.sentence("dump: the area alone", SideEffectTest::dumps);
        CHECK.sentence("attach: the walker alone", SideEffectTest::attaches);
        CHECK.sentence("walk: which list was walked last, alone", SideEffectTest::walks);
        CHECK.end();
    }

    private static Set<Probe> probes(Set<Probe> some, Probe... others) {
        Set<Probe> all = EnumSet.copyOf(some);
        all.addAll(List.of(others));
        return all;
    }

    private static void leavesAlone(String name, Set<Probe> probes, Refusal.Scene scene, Refusal.Call call) {
        for (Probe probe : probes) {
            Desk with = scene.make();
            Desk without = scene.make();
            Check.outcome(() -> call.on(with));
            CHECK.same(name + ", " + probe, probe.answers(with), probe.answers(without));
        }
    }

    private static void leavesAlone(Set<Probe> probes, Map<String, Refusal.Scene> scenes,
            Map<String, Refusal.Call> calls) {
        scenes.forEach((state, scene) ->
                calls.forEach((name, call) -> leavesAlone(state + ": " + name, probes, scene, call)));
    }

    private static Map<String, Refusal.Scene> everyScene() {
        Map<String, Refusal.Scene> scenes = new LinkedHashMap<>(RUNNING);
        scenes.putAll(HALTED);
        scenes.put("poked", Scenes::poked);
        return scenes;
    }

    /** Whether they answer or throw. */
    private static void questions() {
        leavesAlone(ALL, everyScene(), Map.of(
                "memory(0)", x -> x.memory(0), "memory(255)", x -> x.memory(255),
                "area(0, 0)", x -> x.area(0, 0), "area(95, 7)", x -> x.area(95, 7),
                "word(0)", x -> x.word(0), "word(80)", x -> x.word(80),
                "broken(0)", x -> x.broken(0), "broken(1)", x -> x.broken(1),
                "node(0, 0)", x -> x.node(0, 0), "node(1, 2)", x -> x.node(1, 2)));
    }

    private static Map<String, Refusal.Call> kernelCalls() {
        return Map.of(
                "taskNew", x -> x.taskNew(4), "taskEnd", x -> x.taskEnd(0), "waitOn", x -> x.waitOn(0, 1),
                "wake", x -> x.wake(1), "timer", x -> x.timer(35), "dirty file", x -> x.file(true, 3),
                "clean file", x -> x.file(false, 3), "log", x -> x.log(5));
    }

    private static void refusedWhenHalted() {
        leavesAlone(ALL, HALTED, kernelCalls());
        leavesAlone(ALL, HALTED, Map.of("poke", x -> x.poke(20, 7), "halt", x -> x.halt()));
        HALTED.forEach((state, scene) -> kernelCalls().forEach((name, call) ->
                CHECK.state(state + ": " + name, () -> call.on(scene.make()))));
    }

    private static void refusedWhenPoked() {
        Map<String, Refusal.Scene> poked = Map.of("poked", Scenes::poked);
        leavesAlone(ALL, poked, kernelCalls());
        leavesAlone(ALL, poked, Map.of("dump", x -> x.dump(200), "walk", x -> x.walk(0), "attach", x -> x.attach(),
                "good sector", x -> x.sector(3, false)));
        kernelCalls().forEach((name, call) -> CHECK.state(name, () -> call.on(Scenes.poked())));
        for (Refusal.Call between : pokeStays()) {
            Desk x = Scenes.poked();
            Check.outcome(() -> between.on(x));
            CHECK.state("taskNew, poked before", () -> x.taskNew(1));
            CHECK.state("log, poked before", () -> x.log(1));
            x.poke(200, 6);
            CHECK.memoryIs(x, 200, 6);
        }
    }

    private static List<Refusal.Call> pokeStays() {
        return List.of(x -> x.memory(0), x -> x.sector(0, true), x -> x.sector(0, false), x -> x.dump(200),
                x -> x.area(0, 0), x -> x.attach(), x -> x.word(0), x -> x.walk(0), x -> x.broken(0),
                x -> x.node(0, 0), x -> x.poke(256, 0), x -> x.taskEnd(9), x -> x.wake(9));
    }

    private static void wrongInputs() {
        Map<String, Refusal.Call> calls = new LinkedHashMap<>();
        for (int wrong : new int[] {-1, 256, MAX}) {
            calls.put("taskEnd(" + wrong + ")", x -> x.taskEnd(wrong));
            calls.put("waitOn(" + wrong + ", 0)", x -> x.waitOn(wrong, 0));
            calls.put("waitOn(0, " + wrong + ")", x -> x.waitOn(0, wrong));
            calls.put("wake(" + wrong + ")", x -> x.wake(wrong));
            calls.put("poke(" + wrong + ", 1)", x -> x.poke(wrong, 1));
            calls.put("memory(" + wrong + ")", x -> x.memory(wrong));
            calls.put("sector(" + wrong + ", true)", x -> x.sector(wrong, true));
            calls.put("dump(" + wrong + ")", x -> x.dump(wrong));
            calls.put("area(" + wrong + ", 0)", x -> x.area(wrong, 0));
            calls.put("area(0, " + wrong + ")", x -> x.area(0, wrong));
            calls.put("word(" + wrong + ")", x -> x.word(wrong));
            calls.put("walk(" + wrong + ")", x -> x.walk(wrong));
            calls.put("broken(" + wrong + ")", x -> x.broken(wrong));
            calls.put("node(0, " + wrong + ")", x -> x.node(0, wrong));
            calls.put("node(" + wrong + ", 0)", x -> x.node(wrong, 0));
        }
        leavesAlone(ALL, everyScene(), calls);
    }

    /** These words and no others are changed by a call on the busy object. */
    private static void changes(String name, Refusal.Call call, int... addresses) {
        Desk before = Scenes.busy();
        Desk x = Scenes.busy();
        call.on(x);
        Set<Integer> changed = new TreeSet<>();
        for (int address = 0; address < 256; address++) {
            if (x.memory(address) != before.memory(address)) {
                changed.add(address);
            }
        }
        Set<Integer> due = new TreeSet<>();
        for (int address : addresses) {
            due.add(address);
        }
        CHECK.same("words that " + name + " changes", changed, due);
    }

    /** The places of pages 1 and 2 are all taken, and 3 and 4 are files: a new node takes the first place of page 5. */
    private static void kernelWords() {
        changes("taskNew", x -> x.taskNew(4), 10, 25, 80, 82, 83);
        changes("taskEnd(0)", x -> x.taskEnd(0), 0, 3, 5, 16, 17, 18, 36, 37, 38, 44, 46);
        changes("taskEnd(1)", x -> x.taskEnd(1), 17, 20, 21, 22, 23);
        changes("waitOn(1, 1)", x -> x.waitOn(1, 1), 10, 41, 80, 82);
        changes("waitOn(1, 0)", x -> x.waitOn(1, 0), 2, 10, 80, 82);
        changes("wake(1)", x -> x.wake(1), 3, 36, 37, 38);
        changes("wake(3)", x -> x.wake(3), 5, 44, 46);
        changes("timer(35)", x -> x.timer(35), 10, 33, 80, 81, 82);
        changes("timer(99)", x -> x.timer(99), 10, 29, 80, 82);
        changes("log(5)", x -> x.log(5), 6, 242);
        changes("file(true, 1)", x -> x.file(true, 1),
                10, 80, 81, 82, 83, 84, 85, 86, 87, 88, 89, 90, 91, 92, 93, 94, 95);
        changes("poke(200, 1)", x -> x.poke(200, 1), 200);
        changes("sector, dump, attach, area and halt", x -> {
            x.sector(4, true);
            x.halt();
            x.dump(200);
            x.attach();
            x.area(4, 1);
        });
    }

    private static void kernelAlone() {
        leavesAlone(probes(AREA, Probe.WORDS, Probe.WALKED), RUNNING, kernelCalls());
        kernelCalls().forEach((name, call) -> {
            Desk x = Scenes.busy();
            call.on(x);
            CHECK.state("dump behind " + name, () -> x.dump(200));
            CHECK.due("log behind " + name, logged(x), name.equals("log") ? 4 : 3);
        });
    }

    private static int logged(Desk x) {
        x.log(7);
        return x.memory(6);
    }

    private static void pokes() {
        leavesAlone(probes(AREA, Probe.WORDS, Probe.WALKED), RUNNING, Map.of(
                "poke(0, 1)", x -> x.poke(0, 1), "poke(255, -1)", x -> x.poke(255, -1)));
        leavesAlone(probes(SECTORS, Probe.MEMORY, Probe.AREA_LOW), RUNNING, Map.of(
                "poke of what is there", x -> x.poke(7, 0)));
    }

    private static void halts() {
        Set<Probe> probes = probes(AREA, Probe.MEMORY, Probe.WORDS, Probe.WALKED);
        probes.addAll(SECTORS);
        leavesAlone(probes, everyScene(), Map.of("halt", x -> x.halt()));
    }

    private static void sectors() {
        Set<Probe> probes = probes(AREA, Probe.MEMORY, Probe.WORDS, Probe.WALKED, Probe.KERNEL);
        Map<String, Refusal.Call> calls = new LinkedHashMap<>();
        for (int sector : new int[] {0, 1, 2, 14, 95}) {
            calls.put("sector(" + sector + ", true)", x -> x.sector(sector, true));
            calls.put("sector(" + sector + ", false)", x -> x.sector(sector, false));
        }
        leavesAlone(probes, everyScene(), calls);
        leavesAlone(ALL, HALTED, Map.of("good ones good", x -> {
            x.sector(0, false);
            x.sector(95, false);
        }, "bad and good again", x -> {
            x.sector(3, true);
            x.sector(3, false);
        }));
    }

    private static int sectorsNeeded(Refusal.Scene scene, Refusal.Call call) {
        Desk x = scene.make();
        Check.outcome(() -> call.on(x));
        x.halt();
        int power = 0;
        while (x.dump(power) == 2) {
            power++;
        }
        return power;
    }

    /** As many good sectors as the dump behind the call needs: with another one bad or good it would look different. */
    private static void keepsSectors(String name, Refusal.Scene scene, Refusal.Call call) {
        int needed = sectorsNeeded(scene, call);
        keepsSectors(name, scene, call, everyOther(0, needed));
        keepsSectors(name, scene, call, everyOther(1, needed));
    }

    private static List<Integer> everyOther(int first, int count) {
        List<Integer> sectors = new ArrayList<>();
        for (int k = 0; k < count - 1; k++) {
            sectors.add(first + 2 * k);
        }
        sectors.add(95);
        return sectors;
    }

    private static void keepsSectors(String name, Refusal.Scene scene, Refusal.Call call, List<Integer> good) {
        Desk x = scene.make();
        for (int sector = 0; sector < 96; sector++) {
            x.sector(sector, !good.contains(sector));
        }
        Check.outcome(() -> call.on(x));
        x.halt();
        CHECK.due("dump behind " + name, x.dump(200), 0);
        for (int sector = 0; sector < 96; sector++) {
            boolean erased = x.area(sector, 0) == -1 && x.area(sector, 7) == -1;
            CHECK.same("sector " + sector + " is written behind " + name, !erased, good.contains(sector));
        }
    }

    private static void fromNowOn() {
        Map<String, Refusal.Call> calls = new LinkedHashMap<>(kernelCalls());
        calls.put("poke", x -> x.poke(100, 1));
        calls.put("halt", x -> x.halt());
        calls.put("memory", x -> x.memory(1));
        calls.put("area", x -> x.area(1, 1));
        calls.put("dump", x -> x.dump(200));
        calls.put("attach", x -> x.attach());
        calls.put("word", x -> x.word(0));
        calls.put("walk", x -> x.walk(3));
        calls.put("broken", x -> x.broken(1));
        calls.put("node", x -> x.node(0, 0));
        calls.forEach((name, call) -> {
            keepsSectors(name, Scenes::empty, call);
            keepsSectors(name, Scenes::busy, call);
            keepsSectors(name, Scenes::halted, call);
            keepsSectors(name, Scenes::walkedBroken, call);
        });
    }

    private static void dumps() {
        Set<Probe> probes = probes(WALKER, Probe.MEMORY, Probe.KERNEL);
        probes.addAll(SECTORS);
        leavesAlone(probes, HALTED, Map.of("dump(200)", x -> x.dump(200), "dump(5)", x -> x.dump(5),
                "dump(0)", x -> x.dump(0)));
        leavesAlone(ALL, Map.of("dumped", Scenes::dumped, "walked", Scenes::walked), Map.of(
                "the same dump again", x -> x.dump(200)));
        leavesAlone(ALL, RUNNING, Map.of("dump, not halted", x -> x.dump(200)));
    }

    private static void attaches() {
        Set<Probe> probes = probes(AREA, Probe.MEMORY, Probe.KERNEL);
        probes.addAll(SECTORS);
        leavesAlone(probes, everyScene(), Map.of("attach", x -> x.attach()));
        leavesAlone(ALL, RUNNING, Map.of("attach of an erased area", x -> x.attach()));
    }

    private static void walks() {
        Set<Probe> probes = probes(AREA, Probe.MEMORY, Probe.WORDS, Probe.KERNEL, Probe.WALKER);
        probes.addAll(SECTORS);
        leavesAlone(probes, HALTED, Map.of("walk(0)", x -> x.walk(0), "walk(1)", x -> x.walk(1),
                "walk(3)", x -> x.walk(3)));
        leavesAlone(ALL, RUNNING, Map.of("walk, nothing attached", x -> x.walk(0)));
        leavesAlone(ALL, Map.of("walked", Scenes::walked, "walked, broken", Scenes::walkedBroken), Map.of(
                "walk(3) again", x -> x.walk(3)));
    }
}

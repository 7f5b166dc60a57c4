import java.util.ArrayList;
import java.util.List;
import java.util.NoSuchElementException;
import java.util.TreeMap;

/**
 * A second DumpDesk, written from the document with Java's own collections: lists are lists of objects, and memory
 * is laid out from them anew at each look. It serves as what ModelTest compares with.
 */
final class Model {
    private static final class Node {
        int tag;
        int address;
        int first;
        int second;
        Node task;
    }

    private final List<List<Node>> lists = new ArrayList<>();
    private final TreeMap<Integer, Node> nodeAt = new TreeMap<>();
    private final int[] flags = new int[16];
    private final TreeMap<Integer, Integer> seeds = new TreeMap<>();
    private final List<Integer> logged = new ArrayList<>();
    private int tasks = 0;
    private int[] poked = null;
    private boolean halted = false;

    private final boolean[] bad = new boolean[96];
    private final TreeMap<Integer, List<Integer>> written = new TreeMap<>();

    private TreeMap<Integer, List<Integer>> pages = new TreeMap<>();
    private List<Integer> walked = null;
    private int breakKind;
    private int breakAddress;

    Model() {
        for (int list = 0; list < 6; list++) {
            lists.add(new ArrayList<>());
        }
        flags[0] = 1;
        flags[15] = 1;
    }

    private static void argument(boolean fine) {
        if (!fine) {
            throw new IllegalArgumentException();
        }
    }

    private static void state(boolean fine) {
        if (!fine) {
            throw new IllegalStateException();
        }
    }

    private static void element(boolean fine) {
        if (!fine) {
            throw new NoSuchElementException();
        }
    }

    private void runs() {
        state(runsOn());
    }

    boolean runsOn() {
        return !halted && poked == null;
    }

    boolean isHalted() {
        return halted;
    }

    boolean hasTask(int i) {
        return i >= 0 && i < lists.get(0).size();
    }

    boolean hasPageZero() {
        return pages.containsKey(0);
    }

    boolean isWalked() {
        return walked != null;
    }

    boolean hasNode(int k) {
        return walked != null && k >= 0 && k < walked.size();
    }

    private Node take(int tag, int first, int second) {
        int place = -1;
        for (int address = 236; address >= 16; address -= 4) {
            if (flags[address / 16] == 1 && !nodeAt.containsKey(address)) {
                place = address;
            }
        }
        for (int page = 1; page <= 14 && place < 0; page++) {
            if (flags[page] == 0) {
                flags[page] = 1;
                place = page * 16;
            }
        }
        state(place >= 0);
        Node node = new Node();
        node.tag = tag;
        node.address = place;
        node.first = first;
        node.second = second;
        nodeAt.put(place, node);
        return node;
    }

    private void leave(Node node) {
        nodeAt.remove(node.address);
    }

    int taskNew(int priority) {
        runs();
        lists.get(0).add(take(7001, priority, tasks));
        return tasks++;
    }

    int taskEnd(int i) {
        runs();
        element(hasTask(i));
        Node task = lists.get(0).remove(i);
        for (int list = 2; list < 6; list++) {
            for (Node waiter : lists.get(list)) {
                if (waiter.task == task) {
                    leave(waiter);
                }
            }
            lists.get(list).removeIf(waiter -> waiter.task == task);
        }
        leave(task);
        return task.second;
    }

    void waitOn(int i, int queue) {
        runs();
        argument(queue >= 0 && queue <= 3);
        element(hasTask(i));
        Node task = lists.get(0).get(i);
        Node waiter = take(7003, task.address, 0);
        waiter.task = task;
        lists.get(2 + queue).add(waiter);
    }

    int wake(int queue) {
        runs();
        argument(queue >= 0 && queue <= 3);
        element(!lists.get(2 + queue).isEmpty());
        Node waiter = lists.get(2 + queue).remove(0);
        leave(waiter);
        return waiter.task.second;
    }

    void timer(int due) {
        runs();
        Node timer = take(7002, due, 0);
        int at = 0;
        for (Node other : lists.get(1)) {
            if (other.first > due) {
                break;
            }
            at++;
        }
        lists.get(1).add(at, timer);
    }

    int file(boolean dirty, int seed) {
        runs();
        int page = 1;
        while (page < 15 && flags[page] != 0) {
            page++;
        }
        state(page < 15);
        flags[page] = dirty ? 3 : 2;
        seeds.put(page, seed);
        return page;
    }

    void log(int word) {
        runs();
        logged.add(word);
    }

    void poke(int address, int word) {
        argument(address >= 0 && address <= 255);
        state(!halted);
        if (poked == null) {
            poked = layOut();
        }
        poked[address] = word;
    }

    int memory(int address) {
        argument(address >= 0 && address <= 255);
        return now()[address];
    }

    private int[] now() {
        return poked == null ? layOut() : poked;
    }

    private int[] layOut() {
        int[] words = new int[256];
        for (int list = 0; list < 6; list++) {
            int holder = list;
            for (Node node : lists.get(list)) {
                words[holder] = node.address;
                words[node.address] = node.tag;
                words[node.address + 2] = node.first;
                words[node.address + 3] = node.second;
                holder = node.address + 1;
            }
        }
        words[6] = logged.size();
        for (int page = 0; page < 16; page += 2) {
            words[8 + page / 2] = flags[page] + 256 * flags[page + 1];
        }
        seeds.forEach((page, seed) -> {
            for (int k = 0; k < 16; k++) {
                words[page * 16 + k] = seed + k;
            }
        });
        for (int k = 0; k < logged.size(); k++) {
            words[240 + k % 16] = logged.get(k);
        }
        return words;
    }

    void halt() {
        halted = true;
    }

    void sector(int sector, boolean isBad) {
        argument(sector >= 0 && sector <= 95);
        bad[sector] = isBad;
    }

    private List<Integer> good() {
        List<Integer> good = new ArrayList<>();
        for (int sector = 0; sector < 96; sector++) {
            if (!bad[sector]) {
                good.add(sector);
            }
        }
        return good;
    }

    private static int sum(List<Integer> words) {
        int sum = 0;
        for (int word : words) {
            sum = sum * 31 + word;
        }
        return sum;
    }

    private static List<Integer> chunk(int number, int page, List<Integer> packing) {
        List<Integer> words = new ArrayList<>(List.of(50000 + number, page, packing.size()));
        words.addAll(packing);
        while (words.size() % 8 != 7) {
            words.add(0);
        }
        words.add(sum(words));
        return words;
    }

    /** Whether word k of the page is in a run of three or more. */
    private static boolean inRun(List<Integer> page, int k) {
        for (int from = Math.max(0, k - 2); from <= k && from + 2 < page.size(); from++) {
            int word = page.get(from);
            if (page.get(from + 1) == word && page.get(from + 2) == word) {
                return true;
            }
        }
        return false;
    }

    private static List<Integer> pack(List<Integer> page) {
        List<Integer> packing = new ArrayList<>();
        int k = 0;
        while (k < 16) {
            int from = k;
            boolean run = inRun(page, from);
            do {
                k++;
            } while (k < 16 && inRun(page, k) == run && (!run || page.get(k).intValue() == page.get(from)));
            packing.add(run ? from - k : k - from);
            packing.addAll(page.subList(from, run ? from + 1 : k));
        }
        return packing;
    }

    private static List<Integer> page(int[] words, int page) {
        List<Integer> list = new ArrayList<>();
        for (int k = 0; k < 16; k++) {
            list.add(words[page * 16 + k]);
        }
        return list;
    }

    private static boolean stored(int[] words, int page) {
        int flag = words[8 + page / 2] >> (page % 2 == 0 ? 0 : 8) & 0xff;
        boolean zero = page(words, page).stream().allMatch(word -> word == 0);
        return page == 0 || flag != 0 && flag != 2 && !zero;
    }

    int dump(int power) {
        argument(power >= 0 && power <= 200);
        state(halted);
        written.clear();
        List<List<Integer>> chunks = new ArrayList<>();
        for (int page = 0; page < 16; page++) {
            if (stored(now(), page)) {
                chunks.add(chunk(chunks.size(), page, pack(page(now(), page))));
            }
        }
        chunks.add(chunk(chunks.size(), -1, List.of(chunks.size(), 16 - chunks.size())));
        List<Integer> left = good();
        int used = 0;
        for (List<Integer> chunk : chunks) {
            if (chunk.size() / 8 > left.size()) {
                return 1;
            }
            for (int from = 0; from < chunk.size(); from += 8) {
                if (used == power) {
                    return 2;
                }
                used++;
                written.put(left.remove(0), new ArrayList<>(chunk.subList(from, from + 8)));
            }
        }
        return 0;
    }

    int area(int sector, int word) {
        argument(sector >= 0 && sector <= 95 && word >= 0 && word <= 7);
        return written.containsKey(sector) ? written.get(sector).get(word) : -1;
    }

    int attach() {
        List<Integer> words = new ArrayList<>();
        for (int sector : good()) {
            for (int word = 0; word < 8; word++) {
                words.add(area(sector, word));
            }
        }
        pages = new TreeMap<>();
        walked = null;
        int at = 0;
        while (at < words.size() && words.get(at) == 50000 + pages.size()) {
            int page = words.get(at + 1);
            int length = words.get(at + 2);
            boolean end = page == -1 && length == 2;
            int before = pages.isEmpty() ? -1 : pages.lastKey();
            if (!end && (page <= before || page > 15 || length < 1 || length > 32)) {
                break;
            }
            int last = at + (3 + length) / 8 * 8 + 7;
            if (last >= words.size() || words.get(last) != sum(words.subList(at, last))) {
                break;
            }
            if (end) {
                return pages.size() + (words.get(at + 3) == pages.size() ? 100 : 0);
            }
            List<Integer> unpacked = unpack(words.subList(at + 3, at + 3 + length));
            if (unpacked.size() != 16) {
                break;
            }
            pages.put(page, unpacked);
            at = last + 1;
        }
        return pages.size();
    }

    /** No words where the packing is none. */
    private static List<Integer> unpack(List<Integer> packing) {
        List<Integer> words = new ArrayList<>();
        int at = 0;
        while (at < packing.size()) {
            long number = packing.get(at);
            long next = at + (number < 0 ? 2 : 1 + number);
            if (number == 0 || next > packing.size() || number < -16) {
                return List.of();
            }
            for (int k = 0; k < Math.abs(number); k++) {
                words.add(packing.get(number < 0 ? at + 1 : at + 1 + k));
            }
            at = (int) next;
        }
        return words;
    }

    int word(int address) {
        argument(address >= 0 && address <= 255);
        element(pages.containsKey(address / 16));
        return pages.get(address / 16).get(address % 16);
    }

    int walk(int list) {
        argument(list >= 0 && list <= 5);
        state(pages.containsKey(0));
        walked = new ArrayList<>();
        breakKind = 0;
        int holder = list;
        while (word(holder) != 0 && breakKind == 0) {
            int link = word(holder);
            if (link < 16 || link > 236 || link % 4 != 0) {
                breakKind = 1;
            } else if (!pages.containsKey(link / 16)) {
                breakKind = 2;
            } else if (word(link) != 7001 + Math.min(list, 2)) {
                breakKind = 3;
            } else if (walked.contains(link)) {
                breakKind = 4;
            } else {
                walked.add(link);
                holder = link + 1;
            }
        }
        breakAddress = breakKind == 0 ? -1 : holder;
        return walked.size();
    }

    int broken(int what) {
        argument(what == 0 || what == 1);
        state(walked != null);
        return what == 0 ? breakKind : breakAddress;
    }

    int node(int k, int what) {
        argument(what >= 0 && what <= 2);
        state(walked != null);
        element(hasNode(k));
        return what == 0 ? walked.get(k) : word(walked.get(k) + 1 + what);
    }
}

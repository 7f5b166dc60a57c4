import java.util.Arrays;
import java.util.NoSuchElementException;

/** A kernel's memory, the dump that is written of it when it is halted, and the walker over that dump. */
public final class DumpDesk {
    private static final int PAGES = 16;
    private static final int PAGE_WORDS = 16;
    private static final int WORDS = PAGES * PAGE_WORDS;
    private static final int LOG_PAGE = 15;

    private static final int TASKS = 0;
    private static final int TIMERS = 1;
    private static final int FIRST_QUEUE = 2;
    private static final int QUEUES = 4;
    private static final int LISTS = FIRST_QUEUE + QUEUES;
    private static final int LOGGED = 6;
    private static final int MAP = 8;

    private static final int FREE = 0;
    private static final int USED = 1;
    private static final int CLEAN = 2;
    private static final int DIRTY = 3;

    private static final int TASK = 7001;
    private static final int TIMER = 7002;
    private static final int WAITER = 7003;
    private static final int NODE_WORDS = 4;
    private static final int FIRST_PLACE = PAGE_WORDS;
    private static final int LAST_PLACE = LOG_PAGE * PAGE_WORDS - NODE_WORDS;
    private static final int PLACES = (LAST_PLACE - FIRST_PLACE) / NODE_WORDS + 1;
    private static final int NO_PLACE = 0;
    private static final int NO_PAGE = 0;

    private static final int SECTORS = 96;
    private static final int SECTOR_WORDS = 8;
    private static final int MOST_POWER = 200;
    private static final int ERASED = -1;

    private static final int CHUNK_MARK = 50000;
    private static final int END_PAGE = -1;
    private static final int END_LENGTH = 2;
    private static final int CHUNK_HEAD = 3;
    private static final int MOST_PACKING = 32;
    private static final int MOST_CHUNK_WORDS = 40;
    private static final int SHORTEST_RUN = 3;

    private static final int DONE = 0;
    private static final int FULL = 1;
    private static final int LOST = 2;
    private static final int WHOLE = 100;

    private final Kernel kernel;
    private final Sectors sectors;
    private final Writer writer;
    private final Reader reader;
    private final Walker walker;

    public DumpDesk() {
        kernel = new Kernel();
        sectors = new Sectors();
        walker = new Walker();
        writer = new Writer(sectors);
        reader = new Reader(sectors, walker);
    }

    public int taskNew(int priority) throws IllegalStateException {
        refuseUnlessRunning();
        return kernel.addTask(takePlaceUnlessFull(), priority);
    }

    public int taskEnd(int i) throws NoSuchElementException, IllegalStateException {
        refuseUnlessRunning();
        if (kernel.taskAt(i) == NO_PLACE) {
            throw new NoSuchElementException();
        }
        return kernel.endTask(i);
    }

    public void waitOn(int i, int queue)
            throws IllegalArgumentException, NoSuchElementException, IllegalStateException {
        refuseUnlessRunning();
        requireBelow(queue, QUEUES);
        int task = kernel.taskAt(i);
        if (task == NO_PLACE) {
            throw new NoSuchElementException();
        }
        kernel.addWaiter(takePlaceUnlessFull(), task, queue);
    }

    public int wake(int queue) throws IllegalArgumentException, NoSuchElementException, IllegalStateException {
        refuseUnlessRunning();
        requireBelow(queue, QUEUES);
        if (!kernel.hasWaiter(queue)) {
            throw new NoSuchElementException();
        }
        return kernel.wakeFirst(queue);
    }

    public void timer(int due) throws IllegalStateException {
        refuseUnlessRunning();
        kernel.addTimer(takePlaceUnlessFull(), due);
    }

    public int file(boolean dirty, int seed) throws IllegalStateException {
        refuseUnlessRunning();
        int page = kernel.lowestFreePage();
        if (page == NO_PAGE) {
            throw new IllegalStateException();
        }
        kernel.fillFilePage(page, dirty, seed);
        return page;
    }

    public void log(int word) throws IllegalStateException {
        refuseUnlessRunning();
        kernel.logWord(word);
    }

    public void poke(int address, int word) throws IllegalArgumentException, IllegalStateException {
        requireBelow(address, WORDS);
        if (kernel.halted) {
            throw new IllegalStateException();
        }
        kernel.words[address] = word;
        kernel.poked = true;
    }

    public int memory(int address) throws IllegalArgumentException {
        requireBelow(address, WORDS);
        return kernel.words[address];
    }

    public void halt() {
        kernel.halted = true;
    }

    public void sector(int sector, boolean bad) throws IllegalArgumentException {
        requireBelow(sector, SECTORS);
        sectors.bad[sector] = bad;
    }

    public int dump(int power) throws IllegalArgumentException, IllegalStateException {
        requireBelow(power, MOST_POWER + 1);
        if (!kernel.halted) {
            throw new IllegalStateException();
        }
        return writer.writeAll(kernel, power);
    }

    public int area(int sector, int word) throws IllegalArgumentException {
        requireBelow(sector, SECTORS);
        requireBelow(word, SECTOR_WORDS);
        return sectors.words[sector * SECTOR_WORDS + word];
    }

    public int attach() {
        boolean whole = reader.readAll();
        return whole ? walker.pages + WHOLE : walker.pages;
    }

    public int word(int address) throws NoSuchElementException, IllegalArgumentException {
        requireBelow(address, WORDS);
        if (!walker.present[address / PAGE_WORDS]) {
            throw new NoSuchElementException();
        }
        return walker.words[address];
    }

    public int walk(int list) throws IllegalArgumentException, IllegalStateException {
        requireBelow(list, LISTS);
        if (!walker.present[0]) {
            throw new IllegalStateException();
        }
        walker.walkList(list);
        return walker.count;
    }

    public int broken(int what) throws IllegalArgumentException, IllegalStateException {
        requireBelow(what, 2);
        if (!walker.walked) {
            throw new IllegalStateException();
        }
        return what == 0 ? walker.breakKind : walker.breakAddress;
    }

    public int node(int k, int what)
            throws IllegalArgumentException, IllegalStateException, NoSuchElementException {
        requireBelow(what, 3);
        if (!walker.walked) {
            throw new IllegalStateException();
        }
        if (!isBelow(k, walker.count)) {
            throw new NoSuchElementException();
        }
        int place = walker.places[k];
        return what == 0 ? place : walker.words[place + 1 + what];
    }

    private void refuseUnlessRunning() throws IllegalStateException {
        if (kernel.halted || kernel.poked) {
            throw new IllegalStateException();
        }
    }

    private int takePlaceUnlessFull() throws IllegalStateException {
        int place = kernel.takePlace();
        if (place == NO_PLACE) {
            throw new IllegalStateException();
        }
        return place;
    }

    private static void requireBelow(int number, int bound) throws IllegalArgumentException {
        if (!isBelow(number, bound)) {
            throw new IllegalArgumentException();
        }
    }

    private static boolean isBelow(int number, int bound) {
        return number >= 0 && number < bound;
    }

    private static boolean isPlace(int link) {
        return link >= FIRST_PLACE && link <= LAST_PLACE && link % NODE_WORDS == 0;
    }

    /**
     * The memory and the calls that change it. A list is followed by its SLOTS, the addresses of the words that
     * hold its links, so that a head and a node's link are handled alike.
     */
    private static final class Kernel {
        final int[] words = new int[WORDS];
        boolean halted = false;
        boolean poked = false;
        int tasksEver = 0;

        Kernel() {
            setFlag(0, USED);
            setFlag(LOG_PAGE, USED);
        }

        int flagOf(int page) {
            return (words[MAP + page / 2] >>> flagShift(page)) & 255;
        }

        void setFlag(int page, int flag) {
            int others = words[MAP + page / 2] & ~(255 << flagShift(page));
            words[MAP + page / 2] = others | (flag << flagShift(page));
        }

        static int flagShift(int page) {
            return page % 2 * 8;
        }

        int takePlace() {
            for (int place = FIRST_PLACE; place <= LAST_PLACE; place += NODE_WORDS) {
                if (words[place] == 0 && flagOf(place / PAGE_WORDS) == USED) {
                    return place;
                }
            }
            int page = lowestFreePage();
            if (page == NO_PAGE) {
                return NO_PLACE;
            }
            setFlag(page, USED);
            Arrays.fill(words, page * PAGE_WORDS, (page + 1) * PAGE_WORDS, 0);
            return page * PAGE_WORDS;
        }

        int lowestFreePage() {
            for (int page = 1; page < LOG_PAGE; page++) {
                if (flagOf(page) == FREE) {
                    return page;
                }
            }
            return NO_PAGE;
        }

        /** The slot that links to node i of a list, or the list's last slot when it is shorter. */
        int slotOf(int head, int i) {
            int slot = head;
            for (int k = 0; k < i && k < PLACES && isPlace(words[slot]); k++) {
                slot = words[slot] + 1;
            }
            return slot;
        }

        int taskAt(int i) {
            int link = i < 0 ? NO_PLACE : words[slotOf(TASKS, i)];
            return isPlace(link) ? link : NO_PLACE;
        }

        void insertNode(int slot, int place, int tag, int first, int second) {
            words[place] = tag;
            words[place + 1] = words[slot];
            words[place + 2] = first;
            words[place + 3] = second;
            words[slot] = place;
        }

        void removeNode(int slot) {
            int place = words[slot];
            if (isPlace(place)) {
                words[slot] = words[place + 1];
                Arrays.fill(words, place, place + NODE_WORDS, 0);
            }
        }

        int addTask(int place, int priority) {
            int number = tasksEver;
            insertNode(slotOf(TASKS, PLACES), place, TASK, priority, number);
            tasksEver++;
            return number;
        }

        int endTask(int i) {
            int task = taskAt(i);
            int number = words[task + 3];
            for (int queue = 0; queue < QUEUES; queue++) {
                removeWaiters(FIRST_QUEUE + queue, task);
            }
            removeNode(slotOf(TASKS, i));
            return number;
        }

        void removeWaiters(int head, int task) {
            int slot = head;
            for (int k = 0; k < PLACES && isPlace(words[slot]); k++) {
                int waiter = words[slot];
                if (words[waiter + 2] == task) {
                    removeNode(slot);
                } else {
                    slot = waiter + 1;
                }
            }
        }

        void addWaiter(int place, int task, int queue) {
            insertNode(slotOf(FIRST_QUEUE + queue, PLACES), place, WAITER, task, 0);
        }

        boolean hasWaiter(int queue) {
            return isPlace(words[FIRST_QUEUE + queue]);
        }

        int wakeFirst(int queue) {
            int task = words[words[FIRST_QUEUE + queue] + 2];
            removeNode(FIRST_QUEUE + queue);
            return isPlace(task) ? words[task + 3] : 0;
        }

        void addTimer(int place, int due) {
            int slot = TIMERS;
            for (int k = 0; k < PLACES && isPlace(words[slot]) && words[words[slot] + 2] <= due; k++) {
                slot = words[slot] + 1;
            }
            insertNode(slot, place, TIMER, due, 0);
        }

        void fillFilePage(int page, boolean dirty, int seed) {
            setFlag(page, dirty ? DIRTY : CLEAN);
            for (int k = 0; k < PAGE_WORDS; k++) {
                words[page * PAGE_WORDS + k] = seed + k;
            }
        }

        void logWord(int word) {
            words[LOG_PAGE * PAGE_WORDS + Math.floorMod(words[LOGGED], PAGE_WORDS)] = word;
            words[LOGGED]++;
        }

        boolean isStored(int page) {
            if (page == 0) {
                return true;
            }
            int flag = flagOf(page);
            return flag != FREE && flag != CLEAN && !isAllZero(page);
        }

        boolean isAllZero(int page) {
            for (int k = 0; k < PAGE_WORDS; k++) {
                if (words[page * PAGE_WORDS + k] != 0) {
                    return false;
                }
            }
            return true;
        }
    }

    /** The dump area: its sectors in one row, and which of them are bad. */
    private static final class Sectors {
        final int[] words = new int[SECTORS * SECTOR_WORDS];
        final boolean[] bad = new boolean[SECTORS];

        Sectors() {
            eraseAll();
        }

        void eraseAll() {
            Arrays.fill(words, ERASED);
        }

        /** The first sector from here on that is not bad, SECTORS when there is none. */
        int nextGood(int from) {
            int sector = from;
            while (sector < SECTORS && bad[sector]) {
                sector++;
            }
            return sector;
        }

        int countGood(int from) {
            int good = 0;
            for (int sector = from; sector < SECTORS; sector++) {
                if (!bad[sector]) {
                    good++;
                }
            }
            return good;
        }

        void put(int sector, int[] chunk, int from) {
            System.arraycopy(chunk, from, words, sector * SECTOR_WORDS, SECTOR_WORDS);
        }

        void fetch(int sector, int[] chunk, int to) {
            System.arraycopy(words, sector * SECTOR_WORDS, chunk, to, SECTOR_WORDS);
        }
    }

    /** What writer and reader must see alike in a chunk. */
    private static final class Chunks {
        static int sectorsFor(int length) {
            return (CHUNK_HEAD + length + SECTOR_WORDS) / SECTOR_WORDS;
        }

        static int sumOf(int[] chunk, int count) {
            int sum = 0;
            for (int k = 0; k < count; k++) {
                sum = 31 * sum + chunk[k];
            }
            return sum;
        }
    }

    /** Packs pages into chunks and unpacks them; a packing begins behind the head of its chunk. */
    private static final class Packing {
        /** How many words the packing has. */
        static int packPage(int[] words, int page, int[] chunk) {
            int end = (page + 1) * PAGE_WORDS;
            int from = page * PAGE_WORDS;
            int to = CHUNK_HEAD;
            while (from < end) {
                int same = sameFrom(words, from, end);
                if (same >= SHORTEST_RUN) {
                    chunk[to] = -same;
                    chunk[to + 1] = words[from];
                    to += 2;
                    from += same;
                } else {
                    int count = mixedFrom(words, from, end);
                    chunk[to] = count;
                    System.arraycopy(words, from, chunk, to + 1, count);
                    to += 1 + count;
                    from += count;
                }
            }
            return to - CHUNK_HEAD;
        }

        static int sameFrom(int[] words, int from, int end) {
            int next = from + 1;
            while (next < end && words[next] == words[from]) {
                next++;
            }
            return next - from;
        }

        /** At least 1, so that packing gets on. */
        static int mixedFrom(int[] words, int from, int end) {
            int next = from + 1;
            while (next < end && sameFrom(words, next, end) < SHORTEST_RUN) {
                next++;
            }
            return next - from;
        }

        /** Whether a packing of that length gives the words of one page, no more and no fewer. */
        static boolean isOfPage(int[] chunk, int length) {
            int end = CHUNK_HEAD + length;
            int at = CHUNK_HEAD;
            int given = 0;
            while (at < end) {
                int number = chunk[at];
                if (number == 0 || number < -PAGE_WORDS || number > PAGE_WORDS) {
                    return false;
                }
                given += number < 0 ? -number : number;
                at += number < 0 ? 2 : 1 + number;
            }
            return at == end && given == PAGE_WORDS;
        }

        /** Only for a packing that isOfPage. */
        static void unpackPage(int[] chunk, int length, int[] words, int page) {
            int end = CHUNK_HEAD + length;
            int at = CHUNK_HEAD;
            int to = page * PAGE_WORDS;
            while (at < end) {
                int number = chunk[at];
                if (number < 0) {
                    Arrays.fill(words, to, to - number, chunk[at + 1]);
                    to -= number;
                    at += 2;
                } else {
                    System.arraycopy(chunk, at + 1, words, to, number);
                    to += number;
                    at += 1 + number;
                }
            }
        }
    }

    /** Writes a dump, chunk by chunk, as far as sectors and power last. */
    private static final class Writer {
        final Sectors sectors;
        final int[] chunk = new int[MOST_CHUNK_WORDS];
        int sector = 0;
        int power = 0;
        int chunks = 0;

        Writer(Sectors sectors) {
            this.sectors = sectors;
        }

        int writeAll(Kernel kernel, int powerForSectors) {
            sectors.eraseAll();
            sector = 0;
            power = powerForSectors;
            chunks = 0;
            int leftOut = 0;
            for (int page = 0; page < PAGES; page++) {
                if (kernel.isStored(page)) {
                    int end = writeChunk(page, Packing.packPage(kernel.words, page, chunk));
                    if (end != DONE) {
                        return end;
                    }
                } else {
                    leftOut++;
                }
            }
            chunk[CHUNK_HEAD] = chunks;
            chunk[CHUNK_HEAD + 1] = leftOut;
            return writeChunk(END_PAGE, END_LENGTH);
        }

        /** The packing stands in the chunk already. */
        int writeChunk(int page, int length) {
            int needed = Chunks.sectorsFor(length);
            if (sectors.countGood(sector) < needed) {
                return FULL;
            }
            frameChunk(page, length, needed * SECTOR_WORDS - 1);
            for (int k = 0; k < needed; k++) {
                if (power == 0) {
                    return LOST;
                }
                power--;
                int good = sectors.nextGood(sector);
                sectors.put(good, chunk, k * SECTOR_WORDS);
                sector = good + 1;
            }
            chunks++;
            return DONE;
        }

        void frameChunk(int page, int length, int last) {
            chunk[0] = CHUNK_MARK + chunks;
            chunk[1] = page;
            chunk[2] = length;
            Arrays.fill(chunk, CHUNK_HEAD + length, last, 0);
            chunk[last] = Chunks.sumOf(chunk, last);
        }
    }

    /** Reads the area, chunk by chunk as far as they are right, and gives their pages to the walker. */
    private static final class Reader {
        final Sectors sectors;
        final Walker walker;
        final int[] chunk = new int[MOST_CHUNK_WORDS];
        int sector = 0;

        Reader(Sectors sectors, Walker walker) {
            this.sectors = sectors;
            this.walker = walker;
        }

        /** Whether the dump is whole. */
        boolean readAll() {
            walker.forgetAll();
            sector = 0;
            int pageBefore = -1;
            // Pages only go up, so the chunk with the end is at the latest the one behind all PAGES.
            for (int number = 0; number <= PAGES; number++) {
                if (!readChunk(number, pageBefore)) {
                    return false;
                }
                if (chunk[1] == END_PAGE) {
                    return chunk[CHUNK_HEAD] == number;
                }
                if (!Packing.isOfPage(chunk, chunk[2])) {
                    return false;
                }
                pageBefore = chunk[1];
                Packing.unpackPage(chunk, chunk[2], walker.words, pageBefore);
                walker.addPage(pageBefore);
            }
            return false;
        }

        boolean readChunk(int number, int pageBefore) {
            if (!readSector(0) || chunk[0] != CHUNK_MARK + number || !headFits(pageBefore)) {
                return false;
            }
            int needed = Chunks.sectorsFor(chunk[2]);
            for (int k = 1; k < needed; k++) {
                if (!readSector(k)) {
                    return false;
                }
            }
            int last = needed * SECTOR_WORDS - 1;
            return chunk[last] == Chunks.sumOf(chunk, last);
        }

        boolean readSector(int k) {
            int good = sectors.nextGood(sector);
            if (good >= SECTORS) {
                return false;
            }
            sectors.fetch(good, chunk, k * SECTOR_WORDS);
            sector = good + 1;
            return true;
        }

        boolean headFits(int pageBefore) {
            int page = chunk[1];
            int length = chunk[2];
            if (page == END_PAGE) {
                return length == END_LENGTH;
            }
            return page > pageBefore && page < PAGES && length >= 1 && length <= MOST_PACKING;
        }
    }

    /** Memory as it was read from the area, and the list that was walked last. */
    private static final class Walker {
        final int[] words = new int[WORDS];
        final boolean[] present = new boolean[PAGES];
        int pages = 0;
        boolean walked = false;
        final int[] places = new int[PLACES + 1];
        int count = 0;
        int breakKind = 0;
        int breakAddress = -1;

        void forgetAll() {
            for (int page = 0; page < PAGES; page++) {
                present[page] = false;
            }
            pages = 0;
            walked = false;
        }

        void addPage(int page) {
            present[page] = true;
            pages++;
        }

        void walkList(int list) {
            walked = true;
            count = 0;
            breakKind = 0;
            breakAddress = -1;
            int tag = tagOf(list);
            int slot = list;
            // One link more than there are places: that one can only end the list or break it.
            for (int k = 0; k <= PLACES && words[slot] != 0; k++) {
                int link = words[slot];
                breakKind = breakOf(link, tag);
                if (breakKind != 0) {
                    breakAddress = slot;
                    return;
                }
                places[k] = link;
                count = k + 1;
                slot = link + 1;
            }
        }

        static int tagOf(int list) {
            if (list == TASKS) {
                return TASK;
            }
            return list == TIMERS ? TIMER : WAITER;
        }

        int breakOf(int link, int tag) {
            if (!isPlace(link)) {
                return 1;
            }
            if (!present[link / PAGE_WORDS]) {
                return 2;
            }
            if (words[link] != tag) {
                return 3;
            }
            return wasWalked(link) ? 4 : 0;
        }

        boolean wasWalked(int link) {
            for (int k = 0; k < count; k++) {
                if (places[k] == link) {
                    return true;
                }
            }
            return false;
        }
    }
}

import java.util.NoSuchElementException;

/**
 * A heap of words that watches the blocks it gives out. The words in capitals in the comments are
 * the terms of the document.
 */
public final class GuardHeap {
    public static final int NONE = -1;

    private static final int FIRST_ADDRESS = 1;
    private static final int UNIT = 4;
    private static final int LARGEST_SMALL = 64;
    private static final int MOST_WORDS = 3000;
    private static final int FAULTS_KEPT = 32;

    private static final int OWN = 0;
    private static final int LATE = 1;
    private static final int ZONE = 2;
    private static final int WILD = 3;
    private static final int FREED_ALREADY = 4;
    private static final int NO_START = 5;

    private final Memory memory;
    private final int red;
    private final int cap;
    private final Chunks chunks;
    private final Blocks blocks;
    private final Queue queue;
    private final int[] roots;
    private final Faults faults;
    private final LeakSearch search;
    private int given;
    private int freed;
    private int gone;
    private int liveWords;

    public GuardHeap(int words, int red, int cap) {
        int size = nearest(words, 64, MOST_WORDS);
        this.memory = new Memory(size);
        this.red = nearest(red, 1, 8);
        this.cap = nearest(cap, 0, 3000);
        this.chunks = new Chunks(size);
        this.blocks = new Blocks((size - FIRST_ADDRESS) / UNIT);
        this.queue = new Queue();
        this.roots = new int[16];
        this.faults = new Faults();
        this.search = new LeakSearch(blocks, memory, roots);
    }

    public int alloc(int n) {
        if (n < 1) {
            return 0;
        }
        Block block = give(n);
        return block == null ? 0 : block.start;
    }

    public int free(int p) {
        Block block = blocks.liveStartingAt(p);
        if (block == null) {
            return keepStartFault(p);
        }
        putIntoQueue(block);
        return 0;
    }

    public int resize(int p, int n) {
        if (n < 1) {
            return 0;
        }
        Block old = blocks.liveStartingAt(p);
        if (old == null) {
            return -keepStartFault(p);
        }
        Block block = give(n);
        if (block == null) {
            return 0;
        }
        memory.move(old.start, block.start, Math.min(old.length, block.length));
        putIntoQueue(old);
        return block.start;
    }

    public int load(int a) {
        int sort = blocks.sortOf(a);
        if (sort != OWN) {
            faults.keep(sort, a);
            return 0;
        }
        return memory.read(a);
    }

    public int store(int a, int w) {
        int sort = blocks.sortOf(a);
        if (sort != OWN) {
            faults.keep(sort, a);
            return sort;
        }
        memory.write(a, w);
        return 0;
    }

    public int check(int a) {
        return blocks.sortOf(a);
    }

    public int copy(int from, int to, int n) {
        if (n < 0 || n > MOST_WORDS) {
            return -1;
        }
        int read = blocks.ownWordsFrom(from, n);
        if (read < n) {
            return keepCopyFault(from + read, read);
        }
        int written = blocks.ownWordsFrom(to, n);
        if (written < n) {
            return keepCopyFault(to + written, n + written);
        }
        memory.move(from, to, n);
        return n;
    }

    public int sizeOf(int p) {
        Block block = blocks.liveStartingAt(p);
        return block == null ? NONE : block.length;
    }

    public int describe(int a, int what) throws NoSuchElementException {
        if (what < 0 || what > 5) {
            return NONE;
        }
        Block block = blocks.at(a);
        if (block == null) {
            throw new NoSuchElementException("no block's chunk holds this address");
        }
        switch (what) {
            case 0: return block.start;
            case 1: return block.length;
            case 2: return block.chunkSize;
            case 3: return block.serial;
            case 4: return block.live ? 1 : 0;
            default: return a - block.start;
        }
    }

    public boolean setRoot(int r, int a) {
        if (r < 0 || r >= roots.length) {
            return false;
        }
        roots[r] = a;
        return true;
    }

    public int leakScan() {
        return search.run();
    }

    public int leak(int i, int what) {
        Block block = search.lostBlock(i);
        if (block == null) {
            return NONE;
        }
        switch (what) {
            case 0: return block.start;
            case 1: return block.length;
            case 2: return block.serial;
            case 3: return block.head ? 1 : 0;
            default: return NONE;
        }
    }

    public int pointers() {
        return search.leadingNumbers();
    }

    public int count(int what) {
        switch (what) {
            case 0: return chunks.top;
            case 1: return given - freed;
            case 2: return liveWords;
            case 3: return queue.many;
            case 4: return queue.words;
            case 5: return chunks.freeChunks;
            case 6: return chunks.freeWords;
            case 7: return given;
            case 8: return freed;
            case 9: return gone;
            case 10: return chunks.splits;
            case 11: return chunks.joins;
            case 12: return chunks.highestTop;
            case 13: return faults.total;
            case 14: return memory.words.length;
            case 15: return red;
            case 16: return cap;
            default: return NONE;
        }
    }

    public int freeMany(int size) {
        return chunks.manyOfSize(size);
    }

    public int freeAt(int size, int k) {
        return chunks.addressOfSize(size, k);
    }

    public int waiting(int k) {
        Block block = queue.behindFirst(k);
        return block == null ? NONE : block.start;
    }

    public int fault(int k, int what) throws NoSuchElementException {
        if (!faults.has(k) || what < 0 || what > 1) {
            throw new NoSuchElementException("no such fault is kept");
        }
        return what == 0 ? faults.kindOf(k) : faults.addressOf(k);
    }

    private static int nearest(int number, int least, int most) {
        return Math.max(least, Math.min(most, number));
    }

    private int needed(int n) {
        // No chunk can be as large as the heap: more words are as much in vain, but might overflow.
        int inReach = Math.min(n, memory.words.length);
        return (inReach + 2 * red + UNIT - 1) / UNIT * UNIT;
    }

    private Block give(int n) {
        int size = needed(n);
        int place = chunks.find(size);
        for (int left = queue.many; place == NONE && left > 0; left--) {
            letLongestGo();
            place = chunks.find(size);
        }
        if (place == NONE) {
            return null;
        }
        Block block = new Block(place, size, place + red, n, given);
        given++;
        liveWords += n;
        memory.clear(block.start, n);
        blocks.enter(block);
        return block;
    }

    private void putIntoQueue(Block block) {
        block.live = false;
        freed++;
        liveWords -= block.length;
        queue.add(block);
        for (int left = queue.many; queue.words > cap && left > 0; left--) {
            letLongestGo();
        }
    }

    private void letLongestGo() {
        Block block = queue.takeFirst();
        if (block == null) {
            return;
        }
        gone++;
        blocks.remove(block);
        chunks.release(block.chunk, block.chunkSize);
    }

    private int keepStartFault(int p) {
        int kind = blocks.startingAt(p) == null ? NO_START : FREED_ALREADY;
        faults.keep(kind, p);
        return kind;
    }

    private int keepCopyFault(int a, int ahead) {
        faults.keep(blocks.sortOf(a), a);
        return -2 - ahead;
    }

    /** The words themselves; what lies outside of them is read as 0 and never written. */
    private static final class Memory {
        final int[] words;

        Memory(int size) {
            words = new int[size];
        }

        boolean has(int a) {
            return a >= 0 && a < words.length;
        }

        int read(int a) {
            return has(a) ? words[a] : 0;
        }

        void write(int a, int w) {
            if (has(a)) {
                words[a] = w;
            }
        }

        void clear(int from, int n) {
            for (int i = 0; i < n; i++) {
                write(from + i, 0);
            }
        }

        /** The library's copying takes care of two ranges that overlap. */
        void move(int from, int to, int n) {
            if (n > 0 && has(from) && has(to) && n <= words.length - Math.max(from, to)) {
                System.arraycopy(words, from, words, to, n);
            }
        }
    }

    /** A FREE CHUNK, and the next one on its PILE or, of GREAT ones, by addresses. */
    private static final class Chunk {
        final int address;
        final int size;
        Chunk next;

        Chunk(int address, int size) {
            this.address = address;
            this.size = size;
        }

        int end() {
            return address + size;
        }
    }

    /** The FREE CHUNKS and TOP: how words are FOUND and RELEASED. */
    private static final class Chunks {
        final int end;
        final Chunk[] piles;
        // Its first chunk is none: it only saves a special case for the front of the chain.
        final Chunk greatFront;
        int top;
        int highestTop;
        int freeChunks;
        int freeWords;
        int splits;
        int joins;

        Chunks(int end) {
            this.end = end;
            this.piles = new Chunk[LARGEST_SMALL / UNIT + 1];
            this.greatFront = new Chunk(0, 0);
            this.top = FIRST_ADDRESS;
            this.highestTop = FIRST_ADDRESS;
        }

        int find(int size) {
            Chunk chunk = takeFromPiles(size);
            if (chunk == null) {
                chunk = takeGreat(size);
            }
            if (chunk == null) {
                return takeFromTop(size);
            }
            if (chunk.size > size) {
                splits++;
                release(chunk.address + size, chunk.size - size);
            }
            return chunk.address;
        }

        /** A GREAT size stands behind the last pile, so no pile is looked at for it. */
        Chunk takeFromPiles(int size) {
            for (int i = Math.max(size, 0) / UNIT; i < piles.length; i++) {
                Chunk chunk = piles[i];
                if (chunk != null) {
                    piles[i] = chunk.next;
                    freeChunks--;
                    freeWords -= chunk.size;
                    return chunk;
                }
            }
            return null;
        }

        /** The chain goes by addresses: of equal sizes the first one met has the least address. */
        Chunk takeGreat(int size) {
            Chunk best = null;
            for (Chunk c = greatFront.next; c != null; c = c.next) {
                if (c.size >= size && (best == null || c.size < best.size)) {
                    best = c;
                }
            }
            if (best != null) {
                unlinkGreat(best);
            }
            return best;
        }

        int takeFromTop(int size) {
            if (size > end - top) {
                return NONE;
            }
            int address = top;
            top += size;
            highestTop = Math.max(highestTop, top);
            return address;
        }

        void release(int address, int size) {
            if (size > LARGEST_SMALL) {
                releaseGreat(address, size);
            } else {
                putOnPile(new Chunk(address, size));
            }
        }

        void putOnPile(Chunk chunk) {
            int pile = chunk.size / UNIT;
            if (pile < 1 || pile >= piles.length) {
                return;
            }
            chunk.next = piles[pile];
            piles[pile] = chunk;
            freeChunks++;
            freeWords += chunk.size;
        }

        void releaseGreat(int address, int size) {
            int from = address;
            int to = address + size;
            for (Chunk c = greatFront.next; c != null; c = c.next) {
                if (c.end() == address || c.address == address + size) {
                    from = Math.min(from, c.address);
                    to = Math.max(to, c.end());
                    joins++;
                    unlinkGreat(c);
                }
            }
            if (to == top) {
                top = from;
            } else {
                linkGreat(new Chunk(from, to - from));
            }
        }

        void linkGreat(Chunk chunk) {
            Chunk before = greatFront;
            for (Chunk c = greatFront.next; c != null && c.address < chunk.address; c = c.next) {
                before = c;
            }
            chunk.next = before.next;
            before.next = chunk;
            freeChunks++;
            freeWords += chunk.size;
        }

        /** The chunk keeps its own link, so that a walk that stands on it can go on. */
        void unlinkGreat(Chunk chunk) {
            for (Chunk c = greatFront; c != null; c = c.next) {
                if (c.next == chunk) {
                    c.next = chunk.next;
                    freeChunks--;
                    freeWords -= chunk.size;
                    return;
                }
            }
        }

        /** The chain in which chunks of a size would stand, among others if it is GREAT. */
        Chunk chainOf(int size) {
            if (size > LARGEST_SMALL) {
                return greatFront.next;
            }
            return size < UNIT ? null : piles[size / UNIT];
        }

        int manyOfSize(int size) {
            int many = 0;
            for (Chunk c = chainOf(size); c != null; c = c.next) {
                if (c.size == size) {
                    many++;
                }
            }
            return many;
        }

        int addressOfSize(int size, int k) {
            int ahead = 0;
            for (Chunk c = chainOf(size); c != null; c = c.next) {
                if (c.size == size) {
                    if (ahead == k) {
                        return c.address;
                    }
                    ahead++;
                }
            }
            return NONE;
        }
    }

    /** A BLOCK that is LIVE or waits, or that the latest search has kept. */
    private static final class Block {
        final int chunk;
        final int chunkSize;
        final int start;
        final int length;
        final int serial;
        boolean live;
        boolean reached;
        boolean head;
        Block next;

        Block(int chunk, int chunkSize, int start, int length, int serial) {
            this.chunk = chunk;
            this.chunkSize = chunkSize;
            this.start = start;
            this.length = length;
            this.serial = serial;
            this.live = true;
        }

        boolean hasWord(int a) {
            return a >= start && a < start + length;
        }
    }

    /** Which BLOCK an address belongs to: every CHUNK fills whole units of four words. */
    private static final class Blocks {
        final Block[] byUnit;

        Blocks(int units) {
            byUnit = new Block[units];
        }

        Block at(int a) {
            if (a < FIRST_ADDRESS) {
                return null;
            }
            int unit = (a - FIRST_ADDRESS) / UNIT;
            return unit < byUnit.length ? byUnit[unit] : null;
        }

        Block startingAt(int p) {
            Block block = at(p);
            return block != null && block.start == p ? block : null;
        }

        Block liveStartingAt(int p) {
            Block block = startingAt(p);
            return block != null && block.live ? block : null;
        }

        /** The LIVE BLOCK to which a number LEADS. */
        Block ledToBy(int number) {
            Block block = at(number);
            return block != null && block.live && block.hasWord(number) ? block : null;
        }

        /** The LIVE BLOCK whose chunk begins with this unit: so each is met once, by addresses. */
        Block liveFromUnit(int unit) {
            if (unit < 0 || unit >= byUnit.length) {
                return null;
            }
            Block block = byUnit[unit];
            boolean begins = block != null && block.chunk == FIRST_ADDRESS + unit * UNIT;
            return begins && block.live ? block : null;
        }

        int sortOf(int a) {
            Block block = at(a);
            if (block == null) {
                return WILD;
            }
            if (!block.hasWord(a)) {
                return ZONE;
            }
            return block.live ? OWN : LATE;
        }

        /** How many OWN words stand side by side from an address on, n at most. */
        int ownWordsFrom(int a, int n) {
            for (int i = 0; i < n; i++) {
                if (sortOf(a + i) != OWN) {
                    return i;
                }
            }
            return n;
        }

        void enter(Block block) {
            fillUnits(block, block);
        }

        void remove(Block block) {
            fillUnits(block, null);
        }

        void fillUnits(Block block, Block entry) {
            int first = Math.max(block.chunk - FIRST_ADDRESS, 0) / UNIT;
            int behind = first + block.chunkSize / UNIT;
            for (int i = first; i < behind && i < byUnit.length; i++) {
                byUnit[i] = entry;
            }
        }
    }

    /** The QUEUE: BLOCKS that wait, the one that waits longest first. */
    private static final class Queue {
        Block first;
        Block last;
        int many;
        int words;

        void add(Block block) {
            if (last == null) {
                first = block;
            } else {
                last.next = block;
            }
            last = block;
            many++;
            words += block.chunkSize;
        }

        Block takeFirst() {
            Block block = first;
            if (block == null) {
                return null;
            }
            first = block.next;
            if (first == null) {
                last = null;
            }
            block.next = null;
            many--;
            words -= block.chunkSize;
            return block;
        }

        Block behindFirst(int k) {
            if (k < 0 || k >= many) {
                return null;
            }
            Block block = first;
            for (int i = 0; i < k && block != null; i++) {
                block = block.next;
            }
            return block;
        }
    }

    /** The latest FAULTS in a ring, and how many there were in all. */
    private static final class Faults {
        final int[] kinds;
        final int[] addresses;
        int total;

        Faults() {
            kinds = new int[FAULTS_KEPT];
            addresses = new int[FAULTS_KEPT];
        }

        void keep(int kind, int a) {
            int slot = Math.floorMod(total, FAULTS_KEPT);
            kinds[slot] = kind;
            addresses[slot] = a;
            total++;
        }

        boolean has(int k) {
            return k >= 0 && k < FAULTS_KEPT && k < total;
        }

        int slotOf(int k) {
            return Math.floorMod(total - 1 - k, FAULTS_KEPT);
        }

        int kindOf(int k) {
            return kinds[slotOf(k)];
        }

        int addressOf(int k) {
            return addresses[slotOf(k)];
        }
    }

    /** The search for LOST BLOCKS, and what the latest one kept. */
    private static final class LeakSearch {
        final Blocks blocks;
        final Memory memory;
        final int[] roots;
        final Block[] reached;
        final Block[] lost;
        int reachedMany;
        int lostMany;

        LeakSearch(Blocks blocks, Memory memory, int[] roots) {
            this.blocks = blocks;
            this.memory = memory;
            this.roots = roots;
            this.reached = new Block[blocks.byUnit.length];
            this.lost = new Block[blocks.byUnit.length];
        }

        int run() {
            forgetReached();
            reachFromRoots();
            // What a block leads to is entered behind it, so this walk comes to all of them.
            for (int i = 0; i < reached.length && i < reachedMany; i++) {
                reachFromBlock(reached[i]);
            }
            keepLost();
            for (int i = 0; i < lost.length && i < lostMany; i++) {
                unmarkHeads(lost[i]);
            }
            return lostMany;
        }

        Block lostBlock(int i) {
            return i >= 0 && i < lostMany && i < lost.length ? lost[i] : null;
        }

        int leadingNumbers() {
            int many = 0;
            for (int r = 0; r < roots.length; r++) {
                if (blocks.ledToBy(roots[r]) != null) {
                    many++;
                }
            }
            for (int unit = 0; unit < blocks.byUnit.length; unit++) {
                many += leadingWords(blocks.liveFromUnit(unit));
            }
            return many;
        }

        int leadingWords(Block block) {
            int many = 0;
            int length = block == null ? 0 : block.length;
            for (int i = 0; i < length; i++) {
                if (ledToByWord(block, i) != null) {
                    many++;
                }
            }
            return many;
        }

        Block ledToByWord(Block block, int i) {
            return block == null ? null : blocks.ledToBy(memory.read(block.start + i));
        }

        void forgetReached() {
            reachedMany = 0;
            for (int unit = 0; unit < blocks.byUnit.length; unit++) {
                Block block = blocks.liveFromUnit(unit);
                if (block != null) {
                    block.reached = false;
                }
            }
        }

        void reachFromRoots() {
            for (int r = 0; r < roots.length; r++) {
                reach(blocks.ledToBy(roots[r]));
            }
        }

        void reachFromBlock(Block block) {
            int length = block == null ? 0 : block.length;
            for (int i = 0; i < length; i++) {
                reach(ledToByWord(block, i));
            }
        }

        void reach(Block block) {
            if (block == null || block.reached || reachedMany >= reached.length) {
                return;
            }
            block.reached = true;
            reached[reachedMany] = block;
            reachedMany++;
        }

        void keepLost() {
            lostMany = 0;
            for (int unit = 0; unit < blocks.byUnit.length; unit++) {
                Block block = blocks.liveFromUnit(unit);
                if (block != null && !block.reached && lostMany < lost.length) {
                    block.head = true;
                    lost[lostMany] = block;
                    lostMany++;
                }
            }
        }

        /** Only another block's word takes a head away: a block that leads to itself stays one. */
        void unmarkHeads(Block block) {
            int length = block == null ? 0 : block.length;
            for (int i = 0; i < length; i++) {
                Block led = ledToByWord(block, i);
                if (led != null && led != block) {
                    led.head = false;
                }
            }
        }
    }
}

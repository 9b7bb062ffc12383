import java.util.ArrayDeque;
import java.util.ArrayList;
import java.util.LinkedHashSet;
import java.util.List;
import java.util.NoSuchElementException;
import java.util.Set;
import java.util.TreeMap;

/**
 * The document once more, slow and by other means: every word below TOP lies in a piece, and all
 * that is asked is worked out from the pieces. GuardHeap is compared with it.
 */
final class PlainHeap {
    private enum State { FREE, LIVE, WAITS }

    private static final class Piece {
        int address;
        int size;
        State state = State.FREE;
        int start;
        int length;
        int serial;
        long released;

        Piece(int address, int size) {
            this.address = address;
            this.size = size;
        }

        boolean isFreeGreat() {
            return state == State.FREE && size > 64;
        }
    }

    private record Lost(int start, int length, int serial, boolean head) { }

    private record Fault(int kind, int address) { }

    private final TreeMap<Integer, Piece> pieces = new TreeMap<>();
    private final ArrayDeque<Piece> queue = new ArrayDeque<>();
    private final List<Fault> faults = new ArrayList<>();
    private final int[] roots = new int[16];
    private final int[] memory;
    private final int words;
    private final int red;
    private final int cap;
    private List<Lost> lost = new ArrayList<>();
    private long clock;
    private int top = 1;
    private int highest = 1;
    private int given;
    private int freed;
    private int gone;
    private int splits;
    private int joins;

    PlainHeap(int words, int red, int cap) {
        this.words = words < 64 ? 64 : words > 3000 ? 3000 : words;
        this.red = red < 1 ? 1 : red > 8 ? 8 : red;
        this.cap = cap < 0 ? 0 : cap > 3000 ? 3000 : cap;
        this.memory = new int[this.words];
    }

    private void release(Piece piece) {
        piece.state = State.FREE;
        piece.released = ++clock;
        pieces.put(piece.address, piece);
        if (piece.size <= 64) {
            return;
        }
        var lower = pieces.lowerEntry(piece.address);
        if (lower != null && lower.getValue().isFreeGreat()
            && lower.getKey() + lower.getValue().size == piece.address) {
            pieces.remove(piece.address);
            lower.getValue().size += piece.size;
            piece = lower.getValue();
            joins++;
        }
        Piece upper = pieces.get(piece.address + piece.size);
        if (upper != null && upper.isFreeGreat()) {
            pieces.remove(upper.address);
            piece.size += upper.size;
            joins++;
        }
        if (piece.address + piece.size == top) {
            pieces.remove(piece.address);
            top = piece.address;
        }
    }

    private static boolean better(Piece a, Piece b) {
        if (a.size != b.size) {
            return a.size < b.size;
        }
        return a.size <= 64 ? a.released > b.released : a.address < b.address;
    }

    private Piece find(long size) {
        Piece best = null;
        for (Piece p : pieces.values()) {
            if (p.state == State.FREE && p.size >= size && (best == null || better(p, best))) {
                best = p;
            }
        }
        if (best == null) {
            if (top + size > words) {
                return null;
            }
            best = new Piece(top, (int) size);
            pieces.put(top, best);
            top += (int) size;
            highest = Math.max(highest, top);
            return best;
        }
        best.state = State.LIVE;
        if (best.size > size) {
            splits++;
            Piece rest = new Piece(best.address + (int) size, best.size - (int) size);
            best.size = (int) size;
            release(rest);
        }
        return best;
    }

    private Piece give(int n) {
        long size = (long) n + 2 * red;
        while (size % 4 != 0) {
            size++;
        }
        Piece piece = find(size);
        while (piece == null && !queue.isEmpty()) {
            gone++;
            release(queue.removeFirst());
            piece = find(size);
        }
        if (piece == null) {
            return null;
        }
        piece.state = State.LIVE;
        piece.start = piece.address + red;
        piece.length = n;
        piece.serial = given++;
        for (int i = 0; i < n; i++) {
            memory[piece.start + i] = 0;
        }
        return piece;
    }

    private int waitingWords() {
        return queue.stream().mapToInt(p -> p.size).sum();
    }

    private void putIntoQueue(Piece piece) {
        freed++;
        piece.state = State.WAITS;
        queue.addLast(piece);
        while (waitingWords() > cap) {
            gone++;
            release(queue.removeFirst());
        }
    }

    private Piece blockAround(int a) {
        for (Piece p : pieces.values()) {
            if (p.state != State.FREE && a >= p.address && a < p.address + p.size) {
                return p;
            }
        }
        return null;
    }

    private Piece liveWith(int p) {
        Piece piece = blockAround(p);
        return piece != null && piece.start == p && piece.state == State.LIVE ? piece : null;
    }

    private int startFault(int p) {
        Piece piece = blockAround(p);
        int kind = piece != null && piece.start == p ? 4 : 5;
        faults.add(new Fault(kind, p));
        return kind;
    }

    int alloc(int n) {
        Piece piece = n < 1 ? null : give(n);
        return piece == null ? 0 : piece.start;
    }

    int free(int p) {
        Piece piece = liveWith(p);
        if (piece == null) {
            return startFault(p);
        }
        putIntoQueue(piece);
        return 0;
    }

    int resize(int p, int n) {
        if (n < 1) {
            return 0;
        }
        Piece old = liveWith(p);
        if (old == null) {
            return -startFault(p);
        }
        Piece piece = give(n);
        if (piece == null) {
            return 0;
        }
        for (int i = 0; i < old.length && i < n; i++) {
            memory[piece.start + i] = memory[old.start + i];
        }
        putIntoQueue(old);
        return piece.start;
    }

    int check(int a) {
        Piece p = blockAround(a);
        if (p == null) {
            return 3;
        }
        boolean word = a >= p.start && a < p.start + p.length;
        return !word ? 2 : p.state == State.LIVE ? 0 : 1;
    }

    int load(int a) {
        if (check(a) != 0) {
            faults.add(new Fault(check(a), a));
            return 0;
        }
        return memory[a];
    }

    int store(int a, int w) {
        if (check(a) != 0) {
            faults.add(new Fault(check(a), a));
            return check(a);
        }
        memory[a] = w;
        return 0;
    }

    int copy(int from, int to, int n) {
        if (n < 0 || n > 3000) {
            return -1;
        }
        for (int i = 0; i < 2 * n; i++) {
            int a = i < n ? from + i : to + i - n;
            if (check(a) != 0) {
                faults.add(new Fault(check(a), a));
                return -2 - i;
            }
        }
        int[] read = new int[n];
        for (int i = 0; i < n; i++) {
            read[i] = memory[from + i];
        }
        for (int i = 0; i < n; i++) {
            memory[to + i] = read[i];
        }
        return n;
    }

    int sizeOf(int p) {
        Piece piece = liveWith(p);
        return piece == null ? -1 : piece.length;
    }

    int describe(int a, int what) {
        if (what < 0 || what > 5) {
            return -1;
        }
        Piece p = blockAround(a);
        if (p == null) {
            throw new NoSuchElementException();
        }
        return new int[] {p.start, p.length, p.size, p.serial, p.state == State.LIVE ? 1 : 0, a - p.start}[what];
    }

    boolean setRoot(int r, int a) {
        if (r < 0 || r > 15) {
            return false;
        }
        roots[r] = a;
        return true;
    }

    private List<Piece> live() {
        return pieces.values().stream().filter(p -> p.state == State.LIVE).toList();
    }

    private boolean leads(Piece from, Piece to) {
        for (int i = 0; i < from.length; i++) {
            int number = memory[from.start + i];
            if (number >= to.start && number < to.start + to.length) {
                return true;
            }
        }
        return false;
    }

    int leakScan() {
        Set<Piece> reached = new LinkedHashSet<>();
        for (int root : roots) {
            if (check(root) == 0) {
                reached.add(blockAround(root));
            }
        }
        boolean more = true;
        while (more) {
            more = false;
            for (Piece to : live()) {
                if (!reached.contains(to) && reached.stream().anyMatch(from -> leads(from, to))) {
                    reached.add(to);
                    more = true;
                }
            }
        }
        List<Piece> left = live().stream().filter(p -> !reached.contains(p)).toList();
        lost = new ArrayList<>();
        for (Piece p : left) {
            boolean head = left.stream().noneMatch(other -> other != p && leads(other, p));
            lost.add(new Lost(p.start, p.length, p.serial, head));
        }
        return lost.size();
    }

    int leak(int i, int what) {
        if (i < 0 || i >= lost.size() || what < 0 || what > 3) {
            return -1;
        }
        Lost l = lost.get(i);
        return new int[] {l.start(), l.length(), l.serial(), l.head() ? 1 : 0}[what];
    }

    int pointers() {
        int many = 0;
        for (int root : roots) {
            many += check(root) == 0 ? 1 : 0;
        }
        for (int a = 0; a < words; a++) {
            many += check(a) == 0 && check(memory[a]) == 0 ? 1 : 0;
        }
        return many;
    }

    int count(int what) {
        List<Piece> free = pieces.values().stream().filter(p -> p.state == State.FREE).toList();
        int[] all = {
            top, live().size(), live().stream().mapToInt(p -> p.length).sum(),
            queue.size(), waitingWords(),
            free.size(), free.stream().mapToInt(p -> p.size).sum(),
            given, freed, gone, splits, joins, highest, faults.size(), words, red, cap};
        return what < 0 || what >= all.length ? -1 : all[what];
    }

    private List<Piece> freeOf(int size) {
        return pieces.values().stream().filter(p -> p.state == State.FREE && p.size == size)
            .sorted((a, b) -> size <= 64 ? Long.compare(b.released, a.released) : a.address - b.address)
            .toList();
    }

    int freeMany(int size) {
        return freeOf(size).size();
    }

    int freeAt(int size, int k) {
        List<Piece> free = freeOf(size);
        return k < 0 || k >= free.size() ? -1 : free.get(k).address;
    }

    int waiting(int k) {
        List<Piece> all = List.copyOf(queue);
        return k < 0 || k >= all.size() ? -1 : all.get(k).start;
    }

    int fault(int k, int what) {
        if (k < 0 || k >= 32 || k >= faults.size() || what < 0 || what > 1) {
            throw new NoSuchElementException();
        }
        Fault f = faults.get(faults.size() - 1 - k);
        return what == 0 ? f.kind() : f.address();
    }
}

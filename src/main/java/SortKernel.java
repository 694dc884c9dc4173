/**
 * A kernel that sorts: jobs have their numbers in blocks of one arena, take turns by priority, and
 * go on comparison by comparison, also while their blocks are packed.
 */
public final class SortKernel {
    public static final int OK = 0;
    public static final int BADJOB = -1;
    public static final int BADINDEX = -2;
    public static final int BADSTATE = -3;
    public static final int BADARG = -4;
    public static final int NOSLOT = -5;
    public static final int NOROOM = -6;

    private static final int NONE = -1;

    private static final int OPEN = 1;
    private static final int READY = 2;
    private static final int DONE = 3;
    private static final int CANCELLED = 4;

    private static final int INSERTION = 0;
    private static final int HEAP = 1;
    private static final int MERGE = 2;
    private static final int SHELL = 3;
    private static final int QUICK = 4;

    private static final int LEAST_WORDS = 8;
    private static final int MOST_WORDS = 3000;
    private static final int MOST_JOBS = 24;
    private static final int MOST_QUANTUM = 200;
    private static final int MOST_NUMBERS = 1000;
    private static final int MOST_PRIORITY = 3;
    private static final int MOST_TICKS = 3000;
    private static final int QUICK_BUFFER = 24;

    private final Arena arena;
    private final Job[] jobs;
    private final ReadyLine ready;
    private final int quantum;
    private int clock;
    private int comparisons;

    public SortKernel(int words, int jobs, int quantum) {
        this.arena = new Arena(nearest(words, LEAST_WORDS, MOST_WORDS));
        this.jobs = new Job[nearest(jobs, 1, MOST_JOBS)];
        this.ready = new ReadyLine();
        this.quantum = nearest(quantum, 1, MOST_QUANTUM);
    }

    public int open(int n, int way, int priority) {
        if (!isCount(n) || !isBetween(way, INSERTION, QUICK) || !isPriority(priority)) {
            return BADARG;
        }
        int number = leastFreeNumber();
        if (number < 0 || number >= jobs.length) {
            return NOSLOT;
        }
        Job opened = new Job(number, way, priority);
        if (!takeCellsAndBuffer(opened, n)) {
            return NOROOM;
        }
        arena.clear(opened.cells.first, n);
        jobs[number] = opened;
        return number;
    }

    public int put(int job, int i, int v) {
        Job found = find(job);
        if (found == null) {
            return BADJOB;
        }
        if (found.state != OPEN) {
            return BADSTATE;
        }
        if (!found.hasNumber(i)) {
            return BADINDEX;
        }
        arena.write(found.cells.first + i, v);
        return OK;
    }

    public int resize(int job, int n) {
        Job found = find(job);
        if (found == null) {
            return BADJOB;
        }
        if (found.state != OPEN) {
            return BADSTATE;
        }
        if (!isCount(n)) {
            return BADARG;
        }
        return exchangeBlocks(found, n) ? OK : NOROOM;
    }

    public int submit(int job) {
        Job found = find(job);
        if (found == null) {
            return BADJOB;
        }
        if (found.state != OPEN) {
            return BADSTATE;
        }
        found.state = READY;
        found.submittedAt = clock;
        Sorting sorting = sortingOf(found);
        found.sorting = sorting;
        sorting.begin();
        ready.enter(found);
        return OK;
    }

    public int tick() {
        return takeTurn();
    }

    public int run(int n) {
        if (!isBetween(n, 0, MOST_TICKS)) {
            return BADARG;
        }
        int made = 0;
        while (made < n && ready.first != null) {
            takeTurn();
            made++;
        }
        return made;
    }

    public int state(int job) {
        Job found = find(job);
        return found == null ? BADJOB : found.state;
    }

    public int get(int job, int i) {
        Job found = find(job);
        if (found == null || !found.hasNumber(i)) {
            return 0;
        }
        return arena.read(found.cells.first + i);
    }

    public int cancel(int job) {
        Job found = find(job);
        if (found == null) {
            return BADJOB;
        }
        if (found.state != READY) {
            return BADSTATE;
        }
        ready.leave(found);
        found.state = CANCELLED;
        return OK;
    }

    public int raise(int job, int priority) {
        Job found = find(job);
        if (found == null) {
            return BADJOB;
        }
        if (!isPriority(priority)) {
            return BADARG;
        }
        if (found.state != OPEN && found.state != READY) {
            return BADSTATE;
        }
        // The line is kept in the order of priorities: nobody in it may change its own.
        ready.leave(found);
        found.priority = priority;
        if (found.state == READY) {
            ready.enter(found);
        }
        return OK;
    }

    public int close(int job) {
        Job found = find(job);
        if (found == null) {
            return BADJOB;
        }
        if (found.state == READY) {
            return BADSTATE;
        }
        arena.giveBack(found.cells);
        arena.giveBack(found.buffer);
        jobs[job] = null;
        return OK;
    }

    public int pack() {
        return arena.moveAllDown();
    }

    public int word(int i) {
        return arena.read(i);
    }

    public int job(int job, int what) {
        Job found = find(job);
        if (found == null) {
            return NONE;
        }
        switch (what) {
            case 0: return found.cells.size;
            case 1: return found.way;
            case 2: return found.priority;
            case 3: return found.comparisons;
            case 4: return found.cells.first;
            case 5: return found.buffer.first;
            case 6: return ready.countAheadOf(found);
            case 7: return found.submittedAt;
            case 8: return found.doneAt;
            default: return NONE;
        }
    }

    public int count(int what) {
        switch (what) {
            case 0: return arena.countFreeWords();
            case 1: return arena.sizeOfLargestGap();
            case 2: return arena.countGaps();
            case 3: return clock;
            case 4: return countJobs();
            case 5: return ready.length();
            case 6: return comparisons;
            case 7: return arena.words.length;
            case 8: return quantum;
            default: return NONE;
        }
    }

    private static int nearest(int value, int least, int most) {
        return Math.max(least, Math.min(most, value));
    }

    private static boolean isBetween(int value, int least, int most) {
        return value >= least && value <= most;
    }

    private static boolean isCount(int n) {
        return isBetween(n, 0, MOST_NUMBERS);
    }

    private static boolean isPriority(int priority) {
        return isBetween(priority, 0, MOST_PRIORITY);
    }

    private Job find(int number) {
        return number >= 0 && number < jobs.length ? jobs[number] : null;
    }

    private int leastFreeNumber() {
        for (int number = 0; number < jobs.length; number++) {
            if (jobs[number] == null) {
                return number;
            }
        }
        return NONE;
    }

    private int countJobs() {
        int found = 0;
        for (int number = 0; number < jobs.length; number++) {
            if (jobs[number] != null) {
                found++;
            }
        }
        return found;
    }

    private static int bufferSize(int way, int n) {
        if (way == MERGE) {
            return n;
        }
        return way == QUICK ? QUICK_BUFFER : 0;
    }

    private boolean takeCellsAndBuffer(Job job, int n) {
        if (!arena.take(job.cells, n)) {
            return false;
        }
        if (!arena.take(job.buffer, bufferSize(job.way, n))) {
            arena.giveBack(job.cells);
            return false;
        }
        return true;
    }

    private boolean exchangeBlocks(Job job, int n) {
        boolean merges = job.way == MERGE;
        int oldCells = job.cells.first;
        int oldBuffer = job.buffer.first;
        int oldCount = job.cells.size;
        arena.giveBack(job.cells);
        if (merges) {
            arena.giveBack(job.buffer);
        }
        boolean had = merges ? takeCellsAndBuffer(job, n) : arena.take(job.cells, n);
        if (!had) {
            arena.putAt(job.cells, oldCells, oldCount);
            if (merges) {
                arena.putAt(job.buffer, oldBuffer, oldCount);
            }
            return false;
        }
        // WORDS change only now, when nothing can be refused any more.
        int kept = Math.min(oldCount, n);
        arena.copy(oldCells, job.cells.first, kept);
        arena.clear(job.cells.first + kept, n - kept);
        return true;
    }

    private Sorting sortingOf(Job job) {
        switch (job.way) {
            case HEAP: return new HeapSorting(arena, job.cells);
            case MERGE: return new MergeSorting(arena, job.cells, job.buffer);
            case SHELL: return new GapSorting(arena, job.cells, greatestGapBelow(job.cells.size));
            case QUICK: return new QuickSorting(arena, job.cells, job.buffer);
            default: return new GapSorting(arena, job.cells, 1);
        }
    }

    private static int greatestGapBelow(int n) {
        int gap = 1;
        while (gap < MOST_NUMBERS && 3 * gap + 1 < n) {
            gap = 3 * gap + 1;
        }
        return gap;
    }

    private int takeTurn() {
        clock++;
        Job job = ready.first;
        if (job == null) {
            return NONE;
        }
        ready.leave(job);
        comparisons += job.compareUpTo(quantum);
        if (job.isSorted()) {
            job.state = DONE;
            job.doneAt = clock;
        } else {
            ready.enter(job);
        }
        return job.number;
    }

    /** A row of taken WORDS, a link of the arena's chain; without WORDS it is in no chain. */
    private static final class Block {
        private int first = NONE;
        private int size;
        private Block next;

        private int end() {
            return first + size;
        }
    }

    /**
     * The WORDS and the chain of the taken BLOCKS by their first WORD. Free BLOCKS are the gaps
     * between taken ones, so that those that touch are one without any doing.
     */
    private static final class Arena {
        private final int[] words;
        private final Block base;

        private Arena(int size) {
            words = new int[Math.max(size, 0)];
            // A BLOCK of no WORDS in front of all, so that each gap has a BLOCK ahead of it.
            base = new Block();
            base.first = 0;
        }

        private int read(int i) {
            return i >= 0 && i < words.length ? words[i] : 0;
        }

        private void write(int i, int v) {
            if (i >= 0 && i < words.length) {
                words[i] = v;
            }
        }

        private void swap(int i, int k) {
            if (i >= 0 && i < words.length && k >= 0 && k < words.length) {
                int was = words[i];
                words[i] = words[k];
                words[k] = was;
            }
        }

        private void clear(int first, int size) {
            for (int i = 0; i < size; i++) {
                write(first + i, 0);
            }
        }

        /** The two rows may overlap. */
        private void copy(int from, int to, int size) {
            int last = words.length - size;
            if (size > 0 && from >= 0 && from <= last && to >= 0 && to <= last) {
                System.arraycopy(words, from, words, to, size);
            }
        }

        private int gapBehind(Block block) {
            int end = block.next == null ? words.length : block.next.first;
            return end - block.end();
        }

        private boolean take(Block block, int n) {
            if (n <= 0) {
                return true;
            }
            for (Block ahead = base; ahead != null; ahead = ahead.next) {
                if (gapBehind(ahead) >= n) {
                    link(ahead, block, ahead.end(), n);
                    return true;
                }
            }
            return false;
        }

        /** Takes WORDS that are known to be free. */
        private void putAt(Block block, int first, int size) {
            if (size <= 0) {
                return;
            }
            Block ahead = base;
            for (Block b = base.next; b != null && b.first < first; b = b.next) {
                ahead = b;
            }
            link(ahead, block, first, size);
        }

        private void link(Block ahead, Block block, int first, int size) {
            block.first = first;
            block.size = size;
            block.next = ahead.next;
            ahead.next = block;
        }

        private void giveBack(Block block) {
            for (Block ahead = base; ahead != null; ahead = ahead.next) {
                if (ahead.next == block) {
                    ahead.next = block.next;
                    break;
                }
            }
            block.first = NONE;
            block.size = 0;
            block.next = null;
        }

        private int moveAllDown() {
            int moved = 0;
            int end = 0;
            for (Block b = base.next; b != null; b = b.next) {
                if (b.first != end) {
                    copy(b.first, end, b.size);
                    b.first = end;
                    moved += b.size;
                }
                end = b.end();
            }
            return moved;
        }

        private int countFreeWords() {
            int free = 0;
            for (Block b = base; b != null; b = b.next) {
                free += gapBehind(b);
            }
            return free;
        }

        private int sizeOfLargestGap() {
            int largest = 0;
            for (Block b = base; b != null; b = b.next) {
                largest = Math.max(largest, gapBehind(b));
            }
            return largest;
        }

        private int countGaps() {
            int gaps = 0;
            for (Block b = base; b != null; b = b.next) {
                if (gapBehind(b) > 0) {
                    gaps++;
                }
            }
            return gaps;
        }
    }

    /** A JOB, and the link of the line that it has while it is READY. */
    private static final class Job {
        private final int number;
        private final int way;
        private final Block cells;
        private final Block buffer;
        private int priority;
        private int state;
        private int comparisons;
        private int submittedAt;
        private int doneAt;
        private Sorting sorting;
        private Job behind;

        private Job(int number, int way, int priority) {
            this.number = number;
            this.way = way;
            this.priority = priority;
            cells = new Block();
            buffer = new Block();
            state = OPEN;
            submittedAt = NONE;
            doneAt = NONE;
        }

        private boolean hasNumber(int i) {
            return i >= 0 && i < cells.size;
        }

        private boolean isSorted() {
            return sorting == null || sorting.over;
        }

        private int compareUpTo(int most) {
            int made = 0;
            while (made < most && sorting != null && !sorting.over) {
                sorting.compareNext();
                made++;
            }
            comparisons += made;
            return made;
        }
    }

    /**
     * The READY JOBS of all priorities in one chain, higher priorities ahead of lower ones: each
     * priority's QUEUE is a part of it, and the first one is the JOB whose turn it is.
     */
    private static final class ReadyLine {
        private Job first;

        private void enter(Job job) {
            Job ahead = null;
            for (Job j = first; j != null && j.priority >= job.priority; j = j.behind) {
                ahead = j;
            }
            if (ahead == null) {
                job.behind = first;
                first = job;
            } else {
                job.behind = ahead.behind;
                ahead.behind = job;
            }
        }

        /** A JOB that is not in the line leaves it as it is. */
        private void leave(Job job) {
            Job ahead = null;
            for (Job j = first; j != null; j = j.behind) {
                if (j == job) {
                    unlink(ahead, job);
                    return;
                }
                ahead = j;
            }
        }

        private void unlink(Job ahead, Job job) {
            if (ahead == null) {
                first = job.behind;
            } else {
                ahead.behind = job.behind;
            }
            job.behind = null;
        }

        private int countAheadOf(Job job) {
            int ahead = 0;
            for (Job j = first; j != null; j = j.behind) {
                if (j == job) {
                    return ahead;
                }
                if (j.priority == job.priority) {
                    ahead++;
                }
            }
            return NONE;
        }

        private int length() {
            int length = 0;
            for (Job j = first; j != null; j = j.behind) {
                length++;
            }
            return length;
        }
    }

    /**
     * A way of sorting that stands still ahead of each COMPARISON. It keeps places as counted from
     * the first CELL, never WORDS of the ARENA: the BLOCKS may be moved between two COMPARISONS.
     */
    private abstract static class Sorting {
        final Arena arena;
        final Block cells;
        final int n;
        boolean over;

        Sorting(Arena arena, Block cells) {
            this.arena = arena;
            this.cells = cells;
            this.n = cells.size;
            this.over = n < 2;
        }

        /** What is ahead of the first COMPARISON. */
        abstract void begin();

        /** One COMPARISON, and all that is done up to the next one or the end. */
        abstract void compareNext();

        final int cell(int i) {
            return arena.read(cells.first + i);
        }

        final void swap(int i, int k) {
            arena.swap(cells.first + i, cells.first + k);
        }
    }

    /** SHELL; and INSERTION, which is what SHELL does with 1 as its first gap. */
    private static final class GapSorting extends Sorting {
        private int gap;
        private int i;
        private int j;

        private GapSorting(Arena arena, Block cells, int gap) {
            super(arena, cells);
            this.gap = gap;
        }

        void begin() {
            i = gap;
            j = gap;
        }

        void compareNext() {
            boolean wrong = cell(j - gap) > cell(j);
            if (wrong) {
                swap(j - gap, j);
                j -= gap;
            }
            if (!wrong || j < gap) {
                goOnWithNextNumber();
            }
        }

        private void goOnWithNextNumber() {
            i++;
            if (i >= n) {
                gap = (gap - 1) / 3;
                i = gap;
                over = gap <= 0;
            }
            j = i;
        }
    }

    /** HEAP. */
    private static final class HeapSorting extends Sorting {
        private int root;
        private int end;
        private int node;
        private int child;
        private boolean comparesChildren;

        private HeapSorting(Arena arena, Block cells) {
            super(arena, cells);
        }

        void begin() {
            root = n / 2 - 1;
            end = n;
            sinkFrom(root);
        }

        void compareNext() {
            if (comparesChildren) {
                if (cell(child) < cell(child + 1)) {
                    child++;
                }
                comparesChildren = false;
                return;
            }
            boolean sinks = cell(node) < cell(child);
            if (sinks) {
                swap(node, child);
                sinkFrom(child);
            }
            if (!sinks || child >= end) {
                goOnWithNextSink();
            }
        }

        private void sinkFrom(int from) {
            node = from;
            child = 2 * from + 1;
            comparesChildren = child + 1 < end;
        }

        private void goOnWithNextSink() {
            if (root > 0) {
                root--;
                sinkFrom(root);
                return;
            }
            end--;
            swap(0, end);
            sinkFrom(0);
            // Only the last SINK, that of one number, has nothing to compare.
            over = end <= 1;
        }
    }

    /** MERGE. */
    private static final class MergeSorting extends Sorting {
        private final Block buffer;
        private boolean inBuffer;
        private int width;
        private int first;
        private int firstEnd;
        private int second;
        private int secondEnd;
        private int out;

        private MergeSorting(Arena arena, Block cells, Block buffer) {
            super(arena, cells);
            this.buffer = buffer;
        }

        void begin() {
            width = 1;
            standAt(0);
        }

        void compareNext() {
            int a = arena.read(from() + first);
            int b = arena.read(from() + second);
            if (a <= b) {
                arena.write(to() + out, a);
                first++;
            } else {
                arena.write(to() + out, b);
                second++;
            }
            out++;
            if (first >= firstEnd || second >= secondEnd) {
                goOnWithNextRows();
            }
        }

        private int from() {
            return inBuffer ? buffer.first : cells.first;
        }

        private int to() {
            return inBuffer ? cells.first : buffer.first;
        }

        private void standAt(int left) {
            first = left;
            firstEnd = Math.min(left + width, n);
            second = firstEnd;
            secondEnd = Math.min(left + 2 * width, n);
            out = left;
        }

        private void goOnWithNextRows() {
            copyRest();
            standAt(secondEnd);
            if (second >= secondEnd) {
                // A first row without a second one is compared with nothing; it is the last one.
                copyRest();
                endPass();
            }
        }

        private void copyRest() {
            int rest = first < firstEnd ? first : second;
            int restEnd = first < firstEnd ? firstEnd : secondEnd;
            arena.copy(from() + rest, to() + out, restEnd - rest);
        }

        private void endPass() {
            inBuffer = !inBuffer;
            width *= 2;
            if (width < n) {
                standAt(0);
                return;
            }
            if (inBuffer) {
                arena.copy(buffer.first, cells.first, n);
            }
            over = true;
        }
    }

    /** QUICK. */
    private static final class QuickSorting extends Sorting {
        private final Block buffer;
        private int stacked;
        private int low;
        private int high;
        private int store;
        private int k;

        private QuickSorting(Arena arena, Block cells, Block buffer) {
            super(arena, cells);
            this.buffer = buffer;
        }

        void begin() {
            low = 0;
            high = n - 1;
            if (!over) {
                startRange();
            }
        }

        void compareNext() {
            if (cell(k) < cell(high)) {
                swap(k, store);
                store++;
            }
            k++;
            if (k >= high) {
                swap(store, high);
                chooseRange();
                if (!over) {
                    startRange();
                }
            }
        }

        private void startRange() {
            swap((low + high) / 2, high);
            store = low;
            k = low;
        }

        private void chooseRange() {
            if (store - low > high - store) {
                stack(low, store - 1);
                low = store + 1;
            } else {
                stack(store + 1, high);
                high = store - 1;
            }
            if (low >= high) {
                takeLatestStacked();
            }
        }

        /** The greater range always waits, so ten of 1000 numbers' ranges are never there at once. */
        private void stack(int from, int to) {
            if (from < to && stacked + 2 <= buffer.size) {
                arena.write(buffer.first + stacked, from);
                arena.write(buffer.first + stacked + 1, to);
                stacked += 2;
            }
        }

        private void takeLatestStacked() {
            if (stacked < 2) {
                over = true;
                return;
            }
            stacked -= 2;
            low = arena.read(buffer.first + stacked);
            high = arena.read(buffer.first + stacked + 1);
        }
    }
}

import java.util.ArrayList;
import java.util.Arrays;
import java.util.List;

/**
 * Mixed runs of up to 512 calls, each answer beside that of a model which holds its state in another
 * way: an owner for each WORD, four lists as QUEUES, and sorting that is done anew from the numbers
 * as they were when submitted, up to the COMPARISON that is due.
 */
public final class ModelRuns {
    private static final int RUNS = 3000;
    private static final int CALLS = 512;

    private static int wrong = 0;

    /** Numbers that are the same in each run of the tests. */
    private static final class Dice {
        private long seed;

        Dice(long seed) {
            this.seed = seed * 0x9E3779B97F4A7C15L + 1;
        }

        int below(int bound) {
            seed = seed * 6364136223846793005L + 1442695040888963407L;
            return (int) ((seed >>> 33) % bound);
        }

        int oneOf(int... choices) {
            return choices[below(choices.length)];
        }
    }

    private static final class Stop extends RuntimeException {
        private static final long serialVersionUID = 1L;
    }

    /** A sort from its start up to the COMPARISON behind the last one that may be made. */
    private static final class Replay {
        final int[] a;
        final int[] buffer;
        final int most;
        int made;
        boolean over;

        Replay(int way, int[] cells, int[] buffer, int most) {
            this.a = cells.clone();
            this.buffer = buffer.clone();
            this.most = most;
            try {
                sort(way, a.length);
                over = true;
            } catch (Stop stop) {
                over = false;
            }
        }

        void sort(int way, int n) {
            switch (way) {
                case 0: insertion(n); break;
                case 1: heap(n); break;
                case 2: merge(n); break;
                case 3: shell(n); break;
                default: quick(n); break;
            }
        }

        boolean less(int x, int y) {
            if (made == most) {
                throw new Stop();
            }
            made++;
            return x < y;
        }

        void swap(int i, int k) {
            int was = a[i];
            a[i] = a[k];
            a[k] = was;
        }

        void insertion(int n) {
            for (int i = 1; i <= n - 1; i++) {
                for (int j = i; j > 0 && less(a[j], a[j - 1]); j--) {
                    swap(j - 1, j);
                }
            }
        }

        void heap(int n) {
            for (int r = n / 2 - 1; r >= 0; r--) {
                sink(r, n);
            }
            for (int e = n - 1; e >= 1; e--) {
                swap(0, e);
                sink(0, e);
            }
        }

        void sink(int r, int e) {
            int c = 2 * r + 1;
            if (c >= e) {
                return;
            }
            if (c + 1 < e && less(a[c], a[c + 1])) {
                c++;
            }
            if (less(a[r], a[c])) {
                swap(r, c);
                sink(c, e);
            }
        }

        void merge(int n) {
            int[] from = a;
            int[] to = buffer;
            for (int w = 1; w < n; w *= 2) {
                for (int l = 0; l < n; l += 2 * w) {
                    int m = Math.min(l + w, n);
                    int h = Math.min(l + 2 * w, n);
                    int x = l;
                    int y = m;
                    int t = l;
                    while (x < m && y < h) {
                        to[t++] = less(from[y], from[x]) ? from[y++] : from[x++];
                    }
                    while (x < m) {
                        to[t++] = from[x++];
                    }
                    while (y < h) {
                        to[t++] = from[y++];
                    }
                }
                int[] was = from;
                from = to;
                to = was;
            }
            if (from == buffer) {
                System.arraycopy(buffer, 0, a, 0, n);
            }
        }

        void shell(int n) {
            int g = 0;
            for (int next = 1; next < n; next = 3 * next + 1) {
                g = next;
            }
            for (; g > 0; g = (g - 1) / 3) {
                for (int i = g; i <= n - 1; i++) {
                    for (int j = i; j >= g && less(a[j], a[j - g]); j -= g) {
                        swap(j - g, j);
                    }
                }
            }
        }

        void quick(int n) {
            List<int[]> waiting = new ArrayList<>();
            int[] range = n > 1 ? new int[] {0, n - 1} : null;
            while (range != null) {
                int l = range[0];
                int h = range[1];
                swap((l + h) / 2, h);
                int s = l;
                for (int k = l; k <= h - 1; k++) {
                    if (less(a[k], a[h])) {
                        swap(k, s);
                        s++;
                    }
                }
                swap(s, h);
                int[] one = {l, s - 1};
                int[] two = {s + 1, h};
                boolean firstHasMore = size(one) > size(two);
                int[] more = firstHasMore ? one : two;
                range = firstHasMore ? two : one;
                if (size(more) >= 2) {
                    buffer[2 * waiting.size()] = more[0];
                    buffer[2 * waiting.size() + 1] = more[1];
                    waiting.add(more);
                }
                if (size(range) < 2) {
                    range = waiting.isEmpty() ? null : waiting.remove(waiting.size() - 1);
                }
            }
        }

        static int size(int[] range) {
            return range[1] - range[0] + 1;
        }
    }

    private static final class ModelJob {
        int number;
        int n;
        int way;
        int priority;
        int state = 1;
        int made;
        int submitted = -1;
        int done = -1;
        int[] startCells;
        int[] startBuffer;

        int cellsId() {
            return 2 * number + 1;
        }

        int bufferId() {
            return 2 * number + 2;
        }
    }

    private static final class Model {
        int[] words;
        int[] owner;
        ModelJob[] jobs;
        int quantum;
        int clock;
        int comparisons;
        List<List<ModelJob>> queues = new ArrayList<>();

        Model(int words, int jobs, int quantum) {
            this.words = new int[words];
            this.owner = new int[words];
            this.jobs = new ModelJob[jobs];
            this.quantum = quantum;
            for (int p = 0; p < 4; p++) {
                queues.add(new ArrayList<>());
            }
        }

        ModelJob at(int job) {
            return job >= 0 && job < jobs.length ? jobs[job] : null;
        }

        int firstOf(int id) {
            for (int i = 0; i < owner.length; i++) {
                if (owner[i] == id) {
                    return i;
                }
            }
            return -1;
        }

        boolean take(int id, int n) {
            int free = 0;
            for (int i = 0; n > 0 && i < owner.length; i++) {
                free = owner[i] == 0 ? free + 1 : 0;
                if (free == n) {
                    Arrays.fill(owner, i - n + 1, i + 1, id);
                    return true;
                }
            }
            return n == 0;
        }

        void give(int id) {
            for (int i = 0; i < owner.length; i++) {
                if (owner[i] == id) {
                    owner[i] = 0;
                }
            }
        }

        int[] content(int id) {
            List<Integer> found = new ArrayList<>();
            for (int i = 0; i < owner.length; i++) {
                if (owner[i] == id) {
                    found.add(words[i]);
                }
            }
            return found.stream().mapToInt(Integer::intValue).toArray();
        }

        void fill(int id, int[] content) {
            int first = firstOf(id);
            for (int i = 0; i < content.length; i++) {
                words[first + i] = content[i];
            }
        }

        int open(int n, int way, int priority) {
            if (n < 0 || n > 1000 || way < 0 || way > 4 || priority < 0 || priority > 3) {
                return -4;
            }
            int number = Arrays.asList(jobs).indexOf(null);
            if (number < 0) {
                return -5;
            }
            ModelJob job = new ModelJob();
            job.number = number;
            job.n = n;
            job.way = way;
            job.priority = priority;
            int[] before = owner.clone();
            if (!take(job.cellsId(), n) || !take(job.bufferId(), way == 2 ? n : way == 4 ? 24 : 0)) {
                owner = before;
                return -6;
            }
            fill(job.cellsId(), new int[n]);
            jobs[number] = job;
            return number;
        }

        int put(int number, int i, int v) {
            ModelJob job = at(number);
            if (job == null) {
                return -1;
            }
            if (job.state != 1) {
                return -3;
            }
            if (i < 0 || i >= job.n) {
                return -2;
            }
            words[firstOf(job.cellsId()) + i] = v;
            return 0;
        }

        int resize(int number, int n) {
            ModelJob job = at(number);
            if (job == null) {
                return -1;
            }
            if (job.state != 1) {
                return -3;
            }
            if (n < 0 || n > 1000) {
                return -4;
            }
            int[] numbers = Arrays.copyOf(content(job.cellsId()), n);
            int[] before = owner.clone();
            give(job.cellsId());
            if (job.way == 2) {
                give(job.bufferId());
            }
            boolean had = take(job.cellsId(), n) && (job.way != 2 || take(job.bufferId(), n));
            if (!had) {
                owner = before;
                return -6;
            }
            job.n = n;
            fill(job.cellsId(), numbers);
            return 0;
        }

        boolean show(ModelJob job) {
            Replay replay = new Replay(job.way, job.startCells, job.startBuffer, job.made);
            job.made = replay.made;
            fill(job.cellsId(), replay.a);
            fill(job.bufferId(), replay.buffer);
            return replay.over;
        }

        int submit(int number) {
            ModelJob job = at(number);
            if (job == null) {
                return -1;
            }
            if (job.state != 1) {
                return -3;
            }
            job.state = 2;
            job.submitted = clock;
            job.startCells = content(job.cellsId());
            job.startBuffer = content(job.bufferId());
            show(job);
            queues.get(job.priority).add(job);
            return 0;
        }

        int tick() {
            clock++;
            for (int p = 3; p >= 0; p--) {
                if (!queues.get(p).isEmpty()) {
                    ModelJob job = queues.get(p).remove(0);
                    int before = job.made;
                    job.made += quantum;
                    if (show(job)) {
                        job.state = 3;
                        job.done = clock;
                    } else {
                        queues.get(p).add(job);
                    }
                    comparisons += job.made - before;
                    return job.number;
                }
            }
            return -1;
        }

        int ready() {
            return queues.stream().mapToInt(List::size).sum();
        }

        int run(int n) {
            if (n < 0 || n > 3000) {
                return -4;
            }
            int made = 0;
            for (; made < n && ready() > 0; made++) {
                tick();
            }
            return made;
        }

        int state(int number) {
            return at(number) == null ? -1 : at(number).state;
        }

        int get(int number, int i) {
            ModelJob job = at(number);
            return job == null || i < 0 || i >= job.n ? 0 : words[firstOf(job.cellsId()) + i];
        }

        int cancel(int number) {
            ModelJob job = at(number);
            if (job == null) {
                return -1;
            }
            if (job.state != 2) {
                return -3;
            }
            job.state = 4;
            queues.get(job.priority).remove(job);
            return 0;
        }

        int raise(int number, int priority) {
            ModelJob job = at(number);
            if (job == null) {
                return -1;
            }
            if (priority < 0 || priority > 3) {
                return -4;
            }
            if (job.state > 2) {
                return -3;
            }
            if (job.state == 2) {
                queues.get(job.priority).remove(job);
                queues.get(priority).add(job);
            }
            job.priority = priority;
            return 0;
        }

        int close(int number) {
            ModelJob job = at(number);
            if (job == null) {
                return -1;
            }
            if (job.state == 2) {
                return -3;
            }
            give(job.cellsId());
            give(job.bufferId());
            jobs[number] = null;
            return 0;
        }

        int pack() {
            int to = 0;
            int moved = 0;
            for (int i = 0; i < words.length; i++) {
                if (owner[i] != 0) {
                    words[to] = words[i];
                    int id = owner[i];
                    owner[i] = 0;
                    owner[to] = id;
                    moved += to == i ? 0 : 1;
                    to++;
                }
            }
            return moved;
        }

        int word(int i) {
            return i >= 0 && i < words.length ? words[i] : 0;
        }

        int job(int number, int what) {
            ModelJob job = at(number);
            if (job == null || what < 0 || what > 8) {
                return -1;
            }
            int[] answers = {job.n, job.way, job.priority, job.made, firstOf(job.cellsId()),
                firstOf(job.bufferId()), queues.get(job.priority).indexOf(job), job.submitted, job.done};
            return answers[what];
        }

        int count(int what) {
            int free = 0;
            int largest = 0;
            int blocks = 0;
            int length = 0;
            for (int id : owner) {
                length = id == 0 ? length + 1 : 0;
                free += id == 0 ? 1 : 0;
                blocks += length == 1 ? 1 : 0;
                largest = Math.max(largest, length);
            }
            int held = 0;
            for (ModelJob job : jobs) {
                held += job == null ? 0 : 1;
            }
            int[] answers = {free, largest, blocks, clock, held, ready(), comparisons, words.length, quantum};
            return what < 0 || what > 8 ? -1 : answers[what];
        }
    }

    private static final class Run {
        final int number;
        final Dice dice;
        final SortKernel x;
        final Model model;
        final int most;
        final int jobs;
        int calls;
        boolean failed;

        Run(int number) {
            this.number = number;
            dice = new Dice(number);
            int words = dice.oneOf(8, 30, 60, 100, 200, 400, 3000);
            jobs = dice.oneOf(1, 2, 5, 10, 24);
            int quantum = dice.oneOf(1, 1, 2, 3, 7, 50, 200);
            most = dice.oneOf(3, 8, 20, words == 3000 ? 150 : 40);
            x = new SortKernel(words, jobs, quantum);
            model = new Model(words, jobs, quantum);
        }

        void due(String call, int got, int want) {
            calls++;
            if (got != want && !failed) {
                failed = true;
                wrong++;
                System.out.println("run " + number + ", call " + calls + ": " + call + " answered " + got
                    + ", due is " + want);
            }
        }

        int anyJob() {
            return dice.below(40) == 0 ? dice.oneOf(-1, jobs, Integer.MAX_VALUE) : dice.below(jobs);
        }

        int anyNumber() {
            return dice.oneOf(dice.below(5), dice.below(1000) - 500, Integer.MIN_VALUE, Integer.MAX_VALUE,
                dice.below(100));
        }

        int anyCount() {
            return dice.below(40) == 0 ? dice.oneOf(-1, 1001, 1000) : dice.below(most + 1);
        }

        int anyPriority() {
            return dice.below(30) == 0 ? dice.oneOf(-1, 4) : dice.below(4);
        }

        void openAndFill() {
            int n = anyCount();
            int way = dice.below(50) == 0 ? dice.oneOf(-1, 5) : dice.below(5);
            int priority = anyPriority();
            int job = x.open(n, way, priority);
            due("open(" + n + ", " + way + ", " + priority + ")", job, model.open(n, way, priority));
            for (int i = 0; i < n && calls < CALLS - 60 && job >= 0 && dice.below(25) != 0; i++) {
                putAt(job, i);
            }
        }

        void putAt(int job, int i) {
            int v = anyNumber();
            due("put(" + job + ", " + i + ", " + v + ")", x.put(job, i, v), model.put(job, i, v));
        }

        void resizeAny() {
            int job = anyJob();
            int n = anyCount();
            due("resize(" + job + ", " + n + ")", x.resize(job, n), model.resize(job, n));
        }

        void raiseAny() {
            int job = anyJob();
            int priority = anyPriority();
            due("raise(" + job + ", " + priority + ")", x.raise(job, priority), model.raise(job, priority));
        }

        void runAny() {
            int n = dice.oneOf(0, 1, 3, 10, 40, dice.below(60) == 0 ? 3001 : 2);
            due("run(" + n + ")", x.run(n), model.run(n));
        }

        void act() {
            int job = anyJob();
            switch (dice.below(16)) {
                case 0: case 1: case 2: openAndFill(); break;
                case 3: putAt(job, dice.below(most + 2) - 1); break;
                case 4: case 5: resizeAny(); break;
                case 6: case 7: due("submit(" + job + ")", x.submit(job), model.submit(job)); break;
                case 8: case 9: due("tick()", x.tick(), model.tick()); break;
                case 10: runAny(); break;
                case 11: raiseAny(); break;
                case 12: due("pack()", x.pack(), model.pack()); break;
                case 13: due("cancel(" + job + ")", x.cancel(job), model.cancel(job)); break;
                default: due("close(" + job + ")", x.close(job), model.close(job)); break;
            }
        }

        void look() {
            int job = anyJob();
            int i = dice.below(most + 2) - 1;
            int what = dice.below(11) - 1;
            int word = dice.below(model.words.length + 2) - 1;
            switch (dice.below(5)) {
                case 0: due("get(" + job + ", " + i + ")", x.get(job, i), model.get(job, i)); break;
                case 1: due("word(" + word + ")", x.word(word), model.word(word)); break;
                case 2: due("job(" + job + ", " + what + ")", x.job(job, what), model.job(job, what)); break;
                case 3: due("count(" + what + ")", x.count(what), model.count(what)); break;
                default: due("state(" + job + ")", x.state(job), model.state(job)); break;
            }
        }

        /** Short runs look at every WORD at their end, long ones at the calls between. */
        void go() {
            int acting = dice.oneOf(40, 150, CALLS - 60);
            while (calls < acting) {
                act();
                look();
            }
            for (int what = 0; what <= 8; what++) {
                due("count(" + what + ")", x.count(what), model.count(what));
            }
            for (int i = 0; i < model.words.length && calls < CALLS; i++) {
                due("word(" + i + ")", x.word(i), model.word(i));
            }
        }
    }

    /** The most numbers that can be, in each way, with some COMPARISONS at a time. */
    private static void sortThousand(int way, int quantum, int salt) {
        Dice dice = new Dice(salt);
        SortKernel x = new SortKernel(3000, 2, quantum);
        Model model = new Model(3000, 2, quantum);
        String name = "way " + way + " of 1000, salt " + salt + ": ";
        same(name + "open", x.open(1000, way, 0), model.open(1000, way, 0));
        for (int i = 0; i < 250; i++) {
            int v = dice.below(1 << salt);
            int at = salt == 1 ? i * 4 : dice.below(1000);
            same(name + "put", x.put(0, at, v), model.put(0, at, v));
        }
        same(name + "submit", x.submit(0), model.submit(0));
        for (int t = 0; t < 6; t++) {
            same(name + "tick", x.tick(), model.tick());
            for (int i = 0; i < 20; i++) {
                int at = dice.below(3000);
                same(name + "word(" + at + ")", x.word(at), model.word(at));
            }
        }
        // The model would sort anew for each TICK, so its last one makes all that is left.
        int ticks = x.run(3000);
        ModelJob job = model.at(0);
        job.made = 2_000_000;
        boolean over = model.show(job);
        same(name + "sorted", x.state(0), over ? 3 : 2);
        same(name + "comparisons", x.job(0, 3), job.made);
        same(name + "ticks", 6 + ticks, (job.made + quantum - 1) / quantum);
        for (int i = 0; i < 100; i++) {
            int at = dice.below(2100);
            same(name + "word(" + at + ") at the end", x.word(at), model.word(at));
        }
    }

    private static void same(String call, int got, int want) {
        if (got != want) {
            wrong++;
            System.out.println(call + " answered " + got + ", due is " + want);
        }
    }

    public static void main(String[] args) {
        for (int number = 1; number <= RUNS; number++) {
            new Run(number).go();
        }
        for (int way = 0; way < 5; way++) {
            for (int salt : new int[] {1, 3, 10, 20, 30}) {
                sortThousand(way, 199, salt);
            }
        }
        System.out.println(wrong == 0 ? "all runs are as the model's" : wrong + " runs or answers are not as due");
        if (wrong != 0) {
            System.exit(1);
        }
    }
}

import java.util.ArrayList;
import java.util.List;

/** For each promise: ordinary inputs, the edges that the document names, and wrong inputs. */
public final class PromiseTests {
    private static final int[] WRONG_JOBS = {-1, 1, 2, 3, 4, 6, 23, 24, Integer.MIN_VALUE, Integer.MAX_VALUE};

    private static int wrong = 0;
    private static String promise = "";

    private static void due(String call, int got, int want) {
        if (got != want) {
            wrong++;
            System.out.println(promise + ": " + call + " answered " + got + ", due is " + want);
        }
    }

    private static void dueCells(String when, SortKernel x, int job, int... want) {
        for (int i = 0; i < want.length; i++) {
            due(when + " get(" + job + ", " + i + ")", x.get(job, i), want[i]);
        }
    }

    private static void dueWords(String when, SortKernel x, int first, int... want) {
        for (int i = 0; i < want.length; i++) {
            due(when + " word(" + (first + i) + ")", x.word(first + i), want[i]);
        }
    }

    private static int opened(SortKernel x, int way, int priority, int... numbers) {
        int job = x.open(numbers.length, way, priority);
        for (int i = 0; i < numbers.length; i++) {
            due("put", x.put(job, i, numbers[i]), SortKernel.OK);
        }
        return job;
    }

    private static int submitted(SortKernel x, int way, int priority, int... numbers) {
        int job = opened(x, way, priority, numbers);
        due("submit", x.submit(job), SortKernel.OK);
        return job;
    }

    private static void promise1NewObject() {
        promise = "1 a new object";
        int[][] made = {
            {8, 1, 1, 8, 1, 1}, {3000, 24, 200, 3000, 24, 200}, {100, 5, 7, 100, 5, 7},
            {7, 0, 0, 8, 1, 1}, {3001, 25, 201, 3000, 24, 200},
            {Integer.MIN_VALUE, Integer.MIN_VALUE, Integer.MIN_VALUE, 8, 1, 1},
            {Integer.MAX_VALUE, Integer.MAX_VALUE, Integer.MAX_VALUE, 3000, 24, 200}};
        for (int[] m : made) {
            SortKernel x = new SortKernel(m[0], m[1], m[2]);
            due("words", x.count(7), m[3]);
            due("quantum", x.count(8), m[5]);
            due("free words", x.count(0), m[3]);
            due("largest", x.count(1), m[3]);
            due("free blocks", x.count(2), 1);
            for (int what = 3; what <= 6; what++) {
                due("count(" + what + ")", x.count(what), 0);
            }
            for (int i = 0; i < 8; i++) {
                due("word", x.word(i), 0);
            }
            for (int i = 0; i < m[4]; i++) {
                due("open", x.open(0, 0, 0), i);
            }
            due("open beyond", x.open(0, 0, 0), SortKernel.NOSLOT);
        }
    }

    private static void promise2Open() {
        promise = "2 open";
        int[][] refused = {
            {-1, 0, 0}, {1001, 0, 0}, {Integer.MIN_VALUE, 0, 0}, {Integer.MAX_VALUE, 0, 0},
            {1, -1, 0}, {1, 5, 0}, {1, Integer.MAX_VALUE, 0}, {1, 0, -1}, {1, 0, 4}, {1, 0, Integer.MIN_VALUE}};
        SortKernel x = new SortKernel(3000, 2, 1);
        for (int[] r : refused) {
            due("open", x.open(r[0], r[1], r[2]), SortKernel.BADARG);
        }
        due("nothing taken", x.count(0), 3000);
        due("open", x.open(1000, 2, 3), 0);
        due("open", x.open(1000, 4, 0), SortKernel.NOROOM);
        due("first given back", x.count(0), 1000);
        due("state", x.state(0), 1);
        due("open", x.open(1000, 0, 0), 1);
        due("no word left", x.count(2), 0);
        due("largest of none", x.count(1), 0);
        due("BADARG ahead of NOSLOT", x.open(1001, 0, 0), SortKernel.BADARG);
        due("NOSLOT ahead of NOROOM", x.open(5, 0, 0), SortKernel.NOSLOT);
        due("close", x.close(0), SortKernel.OK);
        due("least number", x.open(0, 1, 0), 0);
        openZeroesCellsOnly();
        openWithoutNumbers();
        openTakesFirstFit();
    }

    private static void openZeroesCellsOnly() {
        SortKernel x = new SortKernel(40, 3, 1);
        opened(x, 0, 0, 1, 2, 3, 4, 5, 6, 7, 8, 9, 10);
        x.close(0);
        due("open", x.open(3, 2, 0), 0);
        dueWords("cells are 0, a buffer stays", x, 0, 0, 0, 0, 4, 5, 6, 7, 8, 9, 10);
        x.close(0);
        opened(x, 0, 0, 1, 2, 3, 4, 5, 6, 7, 8, 9, 10);
        x.close(0);
        due("open", x.open(17, 4, 0), SortKernel.NOROOM);
        dueWords("what is refused changes nothing", x, 0, 1, 2, 3, 4, 5, 6, 7, 8, 9, 10);
        due("open", x.open(16, 4, 0), 0);
        due("full", x.count(0), 0);
        for (int way = 0; way < 4; way++) {
            due("no cells to be had", x.open(1, way, 0), SortKernel.NOROOM);
            due("no job", x.count(4), 1);
        }
    }

    private static void openWithoutNumbers() {
        SortKernel x = new SortKernel(30, 6, 1);
        for (int way = 0; way < 5; way++) {
            due("open", x.open(0, way, 0), way);
            due("cells", x.job(way, 4), -1);
            due("buffer", x.job(way, 5), way == 4 ? 0 : -1);
        }
        due("free", x.count(0), 6);
        due("open", x.open(0, 4, 0), SortKernel.NOROOM);
    }

    private static void openTakesFirstFit() {
        SortKernel x = new SortKernel(100, 6, 1);
        due("open", x.open(25, 0, 0), 0);
        due("open", x.open(1, 0, 0), 1);
        due("open", x.open(5, 0, 0), 2);
        due("open", x.open(1, 0, 0), 3);
        x.close(0);
        x.close(2);
        due("open", x.open(30, 4, 0), 0);
        due("cells behind", x.job(0, 4), 32);
        due("buffer ahead", x.job(0, 5), 0);
        due("open", x.open(5, 3, 0), 2);
        due("the first that has as many", x.job(2, 4), 26);
        due("open", x.open(1, 3, 0), 4);
        due("first fit", x.job(4, 4), 24);
        due("free blocks", x.count(2), 1);
    }

    private static void promise3Put() {
        promise = "3 put";
        SortKernel x = new SortKernel(40, 4, 1);
        due("open", x.open(3, 0, 0), 0);
        for (int job : WRONG_JOBS) {
            due("put", x.put(job, 0, 1), SortKernel.BADJOB);
        }
        due("put", x.put(0, 0, Integer.MIN_VALUE), SortKernel.OK);
        due("put", x.put(0, 2, Integer.MAX_VALUE), SortKernel.OK);
        for (int i : new int[] {-1, 3, Integer.MIN_VALUE, Integer.MAX_VALUE}) {
            due("put", x.put(0, i, 1), SortKernel.BADINDEX);
        }
        dueCells("put", x, 0, Integer.MIN_VALUE, 0, Integer.MAX_VALUE);
        due("behind", x.word(3), 0);
        due("open", x.open(0, 0, 0), 1);
        due("put", x.put(1, 0, 1), SortKernel.BADINDEX);
        x.submit(0);
        due("BADSTATE ahead of BADINDEX", x.put(0, 9, 1), SortKernel.BADSTATE);
        due("READY", x.put(0, 0, 1), SortKernel.BADSTATE);
        x.run(100);
        due("DONE", x.put(0, 0, 1), SortKernel.BADSTATE);
        due("refused", x.get(0, 0), Integer.MIN_VALUE);
        x.submit(1);
        x.cancel(1);
        due("CANCELLED", x.put(1, 0, 1), SortKernel.BADSTATE);
    }

    private static void promise4Resize() {
        promise = "4 resize";
        SortKernel x = new SortKernel(20, 3, 1);
        opened(x, 0, 0, 1, 2, 3, 4);
        for (int job : WRONG_JOBS) {
            due("resize", x.resize(job, 1), SortKernel.BADJOB);
        }
        for (int n : new int[] {-1, 1001, Integer.MIN_VALUE, Integer.MAX_VALUE}) {
            due("resize", x.resize(0, n), SortKernel.BADARG);
        }
        due("resize", x.resize(0, 2), SortKernel.OK);
        dueWords("words given back stay", x, 0, 1, 2, 3, 4);
        due("resize", x.resize(0, 5), SortKernel.OK);
        dueCells("others are 0", x, 0, 1, 2, 0, 0, 0);
        due("resize", x.resize(0, 20), SortKernel.OK);
        due("resize", x.resize(0, 21), SortKernel.NOROOM);
        due("count", x.job(0, 0), 20);
        due("resize", x.resize(0, 5), SortKernel.OK);
        x.submit(0);
        due("BADSTATE ahead of BADARG", x.resize(0, 1001), SortKernel.BADSTATE);
        due("READY", x.resize(0, 1), SortKernel.BADSTATE);
        x.run(99);
        due("DONE", x.resize(0, 1), SortKernel.BADSTATE);
        resizeMovesOverOldCells();
        resizeOfNone();
        resizeMerge();
        resizeQuick();
    }

    private static void resizeMovesOverOldCells() {
        SortKernel x = new SortKernel(20, 3, 1);
        due("open", x.open(2, 0, 0), 0);
        opened(x, 0, 0, 1, 2, 3, 4);
        due("open", x.open(1, 0, 0), 2);
        x.close(0);
        due("resize", x.resize(1, 3), SortKernel.OK);
        due("given back first", x.job(1, 4), 0);
        dueWords("down over its own", x, 0, 1, 2, 3, 2, 3, 4);
        due("resize", x.resize(1, 7), SortKernel.OK);
        due("behind the other one", x.job(1, 4), 7);
        dueWords("old ones stay", x, 0, 1, 2, 3, 2, 3, 4, 0, 1, 2, 3, 0, 0, 0, 0);
    }

    private static void resizeOfNone() {
        SortKernel x = new SortKernel(20, 3, 1);
        due("open", x.open(0, 0, 0), 0);
        due("open", x.open(0, 2, 0), 1);
        for (int job = 0; job < 2; job++) {
            due("resize", x.resize(job, 21), SortKernel.NOROOM);
            due("cells", x.job(job, 4), -1);
            due("buffer", x.job(job, 5), -1);
            due("largest", x.count(1), 20);
            due("free blocks", x.count(2), 1);
        }
    }

    private static void resizeMerge() {
        SortKernel x = new SortKernel(24, 3, 1);
        opened(x, 2, 0, 1, 2, 3, 4, 5);
        due("open", x.open(1, 0, 0), 1);
        due("resize", x.resize(0, 11), SortKernel.NOROOM);
        due("cells as they were", x.job(0, 4), 0);
        due("buffer as it was", x.job(0, 5), 5);
        due("count as it was", x.job(0, 0), 5);
        due("free as it was", x.count(0), 13);
        due("free blocks as they were", x.count(2), 1);
        dueCells("as they were", x, 0, 1, 2, 3, 4, 5);
        due("resize", x.resize(0, 6), SortKernel.OK);
        due("cells", x.job(0, 4), 0);
        due("buffer", x.job(0, 5), 11);
        due("resize", x.resize(0, 2), SortKernel.OK);
        due("buffer", x.job(0, 5), 2);
        dueWords("a buffer stays as it is", x, 0, 1, 2, 3, 4, 5);
        due("resize", x.resize(0, 0), SortKernel.OK);
        due("no buffer", x.job(0, 5), -1);
        due("resize", x.resize(0, 3), SortKernel.OK);
        dueCells("all new", x, 0, 0, 0, 0);
        due("buffer again", x.job(0, 5), 3);
    }

    private static void resizeQuick() {
        SortKernel x = new SortKernel(60, 3, 1);
        opened(x, 4, 0, 1, 2, 3);
        due("buffer", x.job(0, 5), 3);
        due("resize", x.resize(0, 10), SortKernel.OK);
        due("cells", x.job(0, 4), 27);
        due("buffer stays", x.job(0, 5), 3);
        dueCells("moved", x, 0, 1, 2, 3, 0, 0, 0, 0, 0, 0, 0);
        due("resize", x.resize(0, 34), SortKernel.NOROOM);
        due("cells", x.job(0, 4), 27);
        due("resize", x.resize(0, 33), SortKernel.OK);
        due("resize", x.resize(0, 0), SortKernel.OK);
        due("cells", x.job(0, 4), -1);
        due("buffer stays", x.job(0, 5), 3);
        due("free", x.count(0), 36);
    }

    private static void promise5Submit() {
        promise = "5 submit";
        SortKernel x = new SortKernel(100, 4, 1);
        due("open", x.open(2, 0, 2), 0);
        for (int job : WRONG_JOBS) {
            due("submit", x.submit(job), SortKernel.BADJOB);
        }
        x.tick();
        due("submit", x.submit(0), SortKernel.OK);
        due("READY", x.state(0), 2);
        due("clock", x.job(0, 7), 1);
        due("submit", x.submit(0), SortKernel.BADSTATE);
        submitted(x, 4, 2, 5, 4, 3);
        due("at the end", x.job(1, 6), 1);
        dueCells("ahead of the first comparison", x, 1, 5, 3, 4);
        due("no comparison", x.job(1, 3), 0);
        x.cancel(0);
        due("CANCELLED", x.submit(0), SortKernel.BADSTATE);
        x.run(99);
        due("DONE", x.submit(1), SortKernel.BADSTATE);
        submitted(x, 1, 0, 2, 1);
        dueCells("heap has nothing ahead", x, 2, 2, 1);
    }

    private static void promise6Tick() {
        promise = "6 tick";
        SortKernel x = new SortKernel(100, 6, 2);
        due("none", x.tick(), -1);
        due("clock", x.count(3), 1);
        submitted(x, 0, 1, 3, 2, 1);
        submitted(x, 0, 1, 3, 2, 1);
        submitted(x, 0, 3, 1, 2, 3);
        submitted(x, 0, 0, 9);
        due("a job of one number waits for its turn", x.state(3), 2);
        due("highest", x.tick(), 2);
        due("exactly the quantum is enough", x.state(2), 3);
        due("when", x.job(2, 8), 2);
        due("first", x.tick(), 0);
        due("to the end", x.job(0, 6), 1);
        due("ahead now", x.job(1, 6), 0);
        due("second", x.tick(), 1);
        due("first again", x.tick(), 0);
        due("comparisons left", x.job(0, 3), 3);
        due("second again", x.tick(), 1);
        due("lowest", x.tick(), 3);
        due("without comparisons", x.job(3, 3), 0);
        due("DONE", x.state(3), 3);
        due("none", x.tick(), -1);
        due("clock", x.count(3), 8);
        everyWayStepByStep();
        everyWaySortsManyNumbers();
    }

    /** Cells, and the buffer's first WORDS where there is one, after each comparison. */
    private static void everyWayStepByStep() {
        steps(0, new int[] {3, 1, 2}, new int[][] {{1, 3, 2}, {1, 2, 3}, {1, 2, 3}});
        steps(1, new int[] {1, 2, 3, 4}, new int[][] {
            {1, 4, 3, 2}, {1, 4, 3, 2}, {4, 1, 3, 2}, {1, 2, 3, 4},
            {1, 2, 3, 4}, {1, 2, 3, 4}, {1, 2, 3, 4}});
        steps(2, new int[] {3, 2, 1}, new int[][] {{3, 2, 1, 2, 3, 1}, {1, 2, 3, 2, 3, 1}});
        steps(2, new int[] {4, 3, 2, 1, 0}, new int[][] {
            {4, 3, 2, 1, 0, 3, 4, 0, 0, 0}, {4, 3, 2, 1, 0, 3, 4, 1, 2, 0},
            {1, 3, 2, 1, 0, 3, 4, 1, 2, 0}, {1, 2, 3, 4, 0, 3, 4, 1, 2, 0},
            {0, 1, 2, 3, 4, 0, 1, 2, 3, 4}});
        steps(3, new int[] {5, 4, 3, 2, 1}, new int[][] {
            {1, 4, 3, 2, 5}, {1, 4, 3, 2, 5}, {1, 3, 4, 2, 5}, {1, 3, 4, 2, 5},
            {1, 3, 2, 4, 5}, {1, 2, 3, 4, 5}, {1, 2, 3, 4, 5}, {1, 2, 3, 4, 5}});
        steps(4, new int[] {5, 4, 3, 2, 1}, new int[][] {
            {5, 4, 1, 2, 3, 0, 0}, {5, 4, 1, 2, 3, 0, 0}, {1, 4, 5, 2, 3, 0, 0}, {2, 1, 3, 4, 5, 3, 4},
            {1, 2, 3, 5, 4, 3, 4}, {1, 2, 3, 4, 5, 3, 4}});
        stepsOfQuickWithMoreInTheFirst();
        stepsWithLikeNumbers();
    }

    private static void stepsOfQuickWithMoreInTheFirst() {
        steps(4, new int[] {1, 2, 5, 3, 4}, new int[][] {
            {1, 2, 4, 3, 5, 0, 0}, {1, 2, 4, 3, 5, 0, 0}, {1, 2, 4, 3, 5, 0, 0}, {1, 3, 4, 2, 5, 0, 3},
            {1, 3, 4, 2, 5, 0, 3}, {1, 3, 4, 2, 5, 0, 3}, {1, 2, 3, 4, 5, 2, 3}, {1, 2, 3, 4, 5, 2, 3}});
        steps(4, new int[] {1, 2, 4, 3, 5, 6}, new int[][] {
            {1, 2, 6, 3, 5, 4, 0, 0}, {1, 2, 6, 3, 5, 4, 0, 0}, {1, 2, 6, 3, 5, 4, 0, 0},
            {1, 2, 3, 6, 5, 4, 0, 0}, {1, 2, 3, 4, 6, 5, 0, 2}, {1, 3, 2, 4, 5, 6, 0, 2},
            {1, 3, 2, 4, 5, 6, 0, 2}, {1, 2, 3, 4, 5, 6, 0, 2}});
    }

    /** Like numbers look the same in each place, but not in the count of comparisons. */
    private static void stepsWithLikeNumbers() {
        steps(0, new int[] {7, 7, 7}, new int[][] {{7, 7, 7}, {7, 7, 7}});
        steps(1, new int[] {7, 7, 7, 7}, new int[][] {
            {7, 7, 7, 7}, {7, 7, 7, 7}, {7, 7, 7, 7}, {7, 7, 7, 7}, {7, 7, 7, 7}, {7, 7, 7, 7}});
        steps(1, new int[] {1, 2, 2, 0}, new int[][] {
            {1, 2, 2, 0}, {1, 2, 2, 0}, {2, 1, 2, 0}, {0, 1, 2, 2},
            {0, 1, 2, 2}, {0, 1, 2, 2}, {0, 1, 2, 2}});
        steps(2, new int[] {1, 2, 2, 3}, new int[][] {
            {1, 2, 2, 3, 1, 2, 0, 0}, {1, 2, 2, 3, 1, 2, 2, 3}, {1, 2, 2, 3, 1, 2, 2, 3},
            {1, 2, 2, 3, 1, 2, 2, 3}});
        steps(3, new int[] {7, 7, 7}, new int[][] {{7, 7, 7}, {7, 7, 7}});
        steps(4, new int[] {7, 7, 7}, new int[][] {
            {7, 7, 7, 0, 0}, {7, 7, 7, 1, 2}, {7, 7, 7, 1, 2}});
    }

    private static void steps(int way, int[] numbers, int[][] after) {
        SortKernel x = new SortKernel(60, 2, 1);
        submitted(x, way, 0, numbers);
        for (int s = 0; s < after.length; s++) {
            due("way " + way + " READY ahead of step " + s, x.state(0), 2);
            x.tick();
            dueWords("way " + way + " step " + s, x, 0, after[s]);
        }
        due("way " + way + " DONE", x.state(0), 3);
        due("way " + way + " comparisons", x.job(0, 3), after.length);
    }

    private static void everyWaySortsManyNumbers() {
        for (int way = 0; way < 5; way++) {
            for (int n : new int[] {0, 1, 2, 3, 4, 5, 13, 14, 31, 40, 41, 64, 65, 100, 400}) {
                for (int kind = 0; kind < 5; kind++) {
                    sortsMany(way, numbers(n, kind));
                }
            }
        }
    }

    private static int[] numbers(int n, int kind) {
        int[] row = new int[n];
        int seed = 12345 + n;
        for (int i = 0; i < n; i++) {
            seed = seed * 1103515245 + 12345;
            int[] kinds = {seed, i, -i, 7, (seed >>> 16) % 3};
            row[i] = kinds[kind];
        }
        return row;
    }

    /** The numbers of a run of up to 512 calls, so only some of the CELLS are asked for. */
    private static void sortsMany(int way, int[] numbers) {
        SortKernel x = new SortKernel(3000, 1, 200);
        submitted(x, way, 0, numbers);
        x.run(3000);
        due("way " + way + " DONE", x.state(0), 3);
        int[] sorted = numbers.clone();
        java.util.Arrays.sort(sorted);
        int stride = 1 + numbers.length / 80;
        for (int i = 0; i < numbers.length; i += stride) {
            due("way " + way + " get " + i, x.get(0, i), sorted[i]);
        }
    }

    private static void promise7Run() {
        promise = "7 run";
        SortKernel x = new SortKernel(100, 4, 1);
        for (int n : new int[] {-1, 3001, Integer.MIN_VALUE, Integer.MAX_VALUE}) {
            due("run", x.run(n), SortKernel.BADARG);
        }
        due("run", x.run(3000), 0);
        due("no tick", x.count(3), 0);
        submitted(x, 0, 0, 4, 3, 2, 1);
        submitted(x, 0, 0, 1, 2);
        due("run", x.run(0), 0);
        due("run", x.run(2), 2);
        due("turns", x.job(0, 3), 1);
        due("turns", x.state(1), 3);
        due("clock", x.count(3), 2);
        due("run", x.run(3000), 5);
        due("clock", x.count(3), 7);
        due("when", x.job(0, 8), 7);
        SortKernel y = new SortKernel(3000, 1, 1);
        due("open", y.open(1000, 0, 0), 0);
        y.put(0, 999, -1);
        y.submit(0);
        due("run", y.run(998), 998);
        due("READY", y.state(0), 2);
        due("run", y.run(3000), 999);
        due("DONE", y.state(0), 3);
        due("sorted", y.get(0, 0), -1);
    }

    private static void promise8State() {
        promise = "8 state";
        SortKernel x = new SortKernel(100, 4, 1);
        due("none", x.state(0), SortKernel.BADJOB);
        opened(x, 0, 0, 2, 1);
        for (int job : WRONG_JOBS) {
            due("state", x.state(job), SortKernel.BADJOB);
        }
        due("OPEN", x.state(0), 1);
        x.submit(0);
        due("READY", x.state(0), 2);
        x.tick();
        due("DONE", x.state(0), 3);
        submitted(x, 0, 0, 2, 1);
        x.cancel(1);
        due("CANCELLED", x.state(1), 4);
        x.close(1);
        due("closed", x.state(1), SortKernel.BADJOB);
    }

    private static void promise9Get() {
        promise = "9 get";
        SortKernel x = new SortKernel(100, 4, 1);
        opened(x, 0, 0, 30, 20, 10);
        opened(x, 0, 0, 7);
        due("get", x.get(0, -1), 0);
        due("get", x.get(0, 3), 0);
        due("get", x.get(1, -1), 0);
        due("get", x.get(1, Integer.MIN_VALUE), 0);
        due("get", x.get(1, Integer.MAX_VALUE), 0);
        due("get", x.get(2, 0), 0);
        due("get", x.get(-1, 0), 0);
        due("get", x.get(Integer.MAX_VALUE, 0), 0);
        x.submit(0);
        x.tick();
        dueCells("under way", x, 0, 20, 30, 10);
        x.cancel(0);
        dueCells("cancelled", x, 0, 20, 30, 10);
        x.close(0);
        dueCells("closed", x, 0, 0, 0, 0);
    }

    private static void promise10Cancel() {
        promise = "10 cancel";
        SortKernel x = new SortKernel(100, 4, 1);
        opened(x, 0, 1, 3, 2, 1);
        for (int job : WRONG_JOBS) {
            due("cancel", x.cancel(job), SortKernel.BADJOB);
        }
        due("OPEN", x.cancel(0), SortKernel.BADSTATE);
        x.submit(0);
        submitted(x, 0, 1, 3, 2, 1);
        submitted(x, 0, 1, 3, 2, 1);
        due("cancel", x.cancel(1), SortKernel.OK);
        due("CANCELLED", x.cancel(1), SortKernel.BADSTATE);
        due("queue", x.job(2, 6), 1);
        due("not READY", x.job(1, 6), -1);
        due("READY ones", x.count(5), 2);
        due("tick", x.tick(), 0);
        due("tick", x.tick(), 2);
        due("cancel the first", x.cancel(0), SortKernel.OK);
        due("tick", x.tick(), 2);
        due("run", x.run(9), 1);
        due("DONE", x.cancel(2), SortKernel.BADSTATE);
        due("never DONE", x.job(0, 8), -1);
        due("submitted", x.job(0, 7), 0);
        due("jobs stay", x.count(4), 3);
        due("words stay", x.count(0), 91);
    }

    private static void promise11Raise() {
        promise = "11 raise";
        SortKernel x = new SortKernel(100, 6, 1);
        opened(x, 0, 1, 3, 2, 1);
        for (int job : WRONG_JOBS) {
            due("BADJOB ahead of BADARG", x.raise(job, 9), SortKernel.BADJOB);
        }
        for (int priority : new int[] {-1, 4, Integer.MIN_VALUE, Integer.MAX_VALUE}) {
            due("raise", x.raise(0, priority), SortKernel.BADARG);
        }
        due("priority", x.job(0, 2), 1);
        due("OPEN", x.raise(0, 2), SortKernel.OK);
        due("priority", x.job(0, 2), 2);
        due("not READY", x.job(0, 6), -1);
        x.submit(0);
        submitted(x, 0, 2, 3, 2, 1);
        submitted(x, 0, 3, 3, 2, 1);
        due("the same", x.raise(0, 2), SortKernel.OK);
        due("to the end", x.job(0, 6), 1);
        due("ahead", x.job(1, 6), 0);
        due("lower", x.raise(2, 0), SortKernel.OK);
        due("tick", x.tick(), 1);
        due("higher", x.raise(2, 2), SortKernel.OK);
        due("queue", x.job(2, 6), 2);
        due("tick", x.tick(), 0);
        due("tick", x.tick(), 1);
        due("cancel", x.cancel(2), SortKernel.OK);
        due("CANCELLED", x.raise(2, 1), SortKernel.BADSTATE);
        due("BADARG ahead of BADSTATE", x.raise(2, 4), SortKernel.BADARG);
        x.run(99);
        due("DONE", x.raise(0, 1), SortKernel.BADSTATE);
        due("priority", x.job(0, 2), 2);
    }

    private static void promise12Close() {
        promise = "12 close";
        SortKernel x = new SortKernel(60, 4, 1);
        due("open", x.open(3, 2, 0), 0);
        for (int job : WRONG_JOBS) {
            due("close", x.close(job), SortKernel.BADJOB);
        }
        due("open", x.open(4, 4, 0), 1);
        due("open", x.open(5, 0, 0), 2);
        opened(x, 0, 0, 9, 8);
        x.submit(3);
        due("READY", x.close(3), SortKernel.BADSTATE);
        due("OPEN", x.close(1), SortKernel.OK);
        due("largest", x.count(1), 28);
        due("free blocks", x.count(2), 2);
        due("close", x.close(0), SortKernel.OK);
        due("grown together", x.count(1), 34);
        due("free blocks", x.count(2), 2);
        due("close", x.close(2), SortKernel.OK);
        due("grown together", x.count(1), 39);
        x.tick();
        due("DONE", x.close(3), SortKernel.OK);
        due("grown together", x.count(1), 60);
        due("free blocks", x.count(2), 1);
        due("jobs", x.count(4), 0);
        dueWords("words stay", x, 39, 8, 9);
        due("closed", x.close(3), SortKernel.BADJOB);
        submitted(x, 0, 0, 1, 2);
        x.cancel(0);
        due("CANCELLED", x.close(0), SortKernel.OK);
        due("open", x.open(1, 0, 0), 0);
        due("a new job", x.job(0, 3), 0);
        due("a new job", x.job(0, 7), -1);
    }

    private static void promise13Pack() {
        promise = "13 pack";
        SortKernel x = new SortKernel(30, 6, 1);
        due("nothing", x.pack(), 0);
        opened(x, 0, 0, 1, 2, 3);
        opened(x, 0, 0, 4, 5);
        opened(x, 2, 0, 6, 7);
        opened(x, 0, 0, 8);
        due("no gap", x.pack(), 0);
        x.close(1);
        due("pack", x.pack(), 5);
        dueWords("moved down, the rest stays", x, 0, 1, 2, 3, 6, 7, 0, 0, 8, 0, 8);
        due("cells", x.job(2, 4), 3);
        due("buffer", x.job(2, 5), 5);
        due("cells", x.job(3, 4), 7);
        due("free", x.count(0), 22);
        due("free blocks", x.count(2), 1);
        due("again", x.pack(), 0);
        x.close(0);
        due("pack", x.pack(), 5);
        dueWords("down over their own", x, 0, 6, 7, 0, 0, 8);
        packFromTheEnd();
        for (int way = 0; way < 5; way++) {
            packUnderWay(way);
        }
    }

    private static void packFromTheEnd() {
        SortKernel x = new SortKernel(8, 3, 1);
        due("open", x.open(3, 0, 0), 0);
        opened(x, 0, 0, 1, 2, 3, 4, 5);
        x.close(0);
        due("pack", x.pack(), 5);
        dueWords("from the last word on", x, 0, 1, 2, 3, 4, 5, 3, 4, 5);
        x.close(1);
        submitted(x, 2, 0, 4, 3, 2, 1);
        x.run(2);
        dueWords("to the last word", x, 4, 3, 4, 1, 2);
    }

    private static void packUnderWay(int way) {
        int[] numbers = numbers(23, 0);
        int most = 0;
        for (int at = 0; at < 400 && at <= most; at++) {
            SortKernel x = new SortKernel(120, 4, 1);
            SortKernel y = new SortKernel(120, 4, 1);
            x.open(30, 0, 0);
            submitted(x, way, 0, numbers);
            submitted(y, way, 0, numbers);
            x.run(at);
            y.run(at);
            x.close(0);
            due("pack", x.pack(), way == 2 ? 46 : way == 4 ? 47 : 23);
            due("cells", x.job(1, 4), 0);
            for (int i = 0; i < 23; i++) {
                due("way " + way + " packed after " + at, x.get(1, i), y.get(0, i));
            }
            due("way " + way + " ticks behind", x.run(3000), y.run(3000));
            for (int i = 0; i < 23; i++) {
                due("way " + way + " packed after " + at + " at the end", x.get(1, i), y.get(0, i));
            }
            most = y.job(0, 3);
            due("way " + way + " comparisons", x.job(1, 3), most);
        }
    }

    private static void promise14Word() {
        promise = "14 word";
        SortKernel x = new SortKernel(10, 2, 1);
        opened(x, 0, 0, 1, 2, 3, 4, 5, 6, 7, 8, 9, 10);
        due("first", x.word(0), 1);
        due("last", x.word(9), 10);
        for (int i : new int[] {-1, 10, Integer.MIN_VALUE, Integer.MAX_VALUE}) {
            due("none such", x.word(i), 0);
        }
        x.close(0);
        due("stays", x.word(9), 10);
    }

    private static void promise15Job() {
        promise = "15 job";
        SortKernel x = new SortKernel(100, 4, 2);
        x.tick();
        opened(x, 0, 1, 9, 8, 7, 6);
        int job = opened(x, 2, 1, 3, 2, 1);
        List<Integer> open = asked(x, job);
        due("open", open.equals(List.of(3, 2, 1, 0, 4, 7, -1, -1, -1)) ? 1 : 0, 1);
        x.submit(0);
        x.tick();
        x.submit(job);
        List<Integer> ready = asked(x, job);
        due("ready", ready.equals(List.of(3, 2, 1, 0, 4, 7, 1, 2, -1)) ? 1 : 0, 1);
        due("first", x.job(0, 6), 0);
        x.tick();
        x.tick();
        List<Integer> done = asked(x, job);
        due("done", done.equals(List.of(3, 2, 1, 2, 4, 7, -1, 2, 4)) ? 1 : 0, 1);
        for (int what : new int[] {-1, 9, Integer.MIN_VALUE, Integer.MAX_VALUE}) {
            due("others", x.job(0, what), -1);
        }
        for (int what = -1; what <= 9; what++) {
            due("no such job", x.job(2, what), -1);
            due("no such job", x.job(-1, what), -1);
            due("no such job", x.job(Integer.MAX_VALUE, what), -1);
        }
    }

    private static List<Integer> asked(SortKernel x, int job) {
        List<Integer> answers = new ArrayList<>();
        for (int what = 0; what <= 8; what++) {
            answers.add(x.job(job, what));
        }
        return answers;
    }

    private static void promise16Count() {
        promise = "16 count";
        SortKernel x = new SortKernel(50, 5, 3);
        submitted(x, 0, 0, 1, 2, 3);
        submitted(x, 0, 0, 3, 2, 1);
        opened(x, 0, 0, 1, 2, 3, 4);
        submitted(x, 0, 0, 1);
        x.tick();
        x.close(0);
        x.tick();
        x.close(2);
        x.tick();
        int[] want = {46, 39, 3, 3, 2, 0, 5, 50, 3};
        for (int what = 0; what <= 8; what++) {
            due("count(" + what + ")", x.count(what), want[what]);
        }
        for (int what : new int[] {-1, 9, Integer.MIN_VALUE, Integer.MAX_VALUE}) {
            due("others", x.count(what), -1);
        }
        submitted(x, 0, 0, 1, 2);
        due("READY", x.count(5), 1);
        due("JOBS", x.count(4), 3);
        x.cancel(0);
        due("READY", x.count(5), 0);
        due("JOBS", x.count(4), 3);
    }

    public static void main(String[] args) {
        promise1NewObject();
        promise2Open();
        promise3Put();
        promise4Resize();
        promise5Submit();
        promise6Tick();
        promise7Run();
        promise8State();
        promise9Get();
        promise10Cancel();
        promise11Raise();
        promise12Close();
        promise13Pack();
        promise14Word();
        promise15Job();
        promise16Count();
        System.out.println(wrong == 0 ? "all promises hold" : wrong + " answers are not as due");
        if (wrong != 0) {
            System.exit(1);
        }
    }
}

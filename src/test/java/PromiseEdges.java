import java.util.function.ToIntBiFunction;

/** Each sentence of the promises that names a boundary case has a test of its own here. */
public final class PromiseEdges {
    private static final int MIN = Integer.MIN_VALUE;
    private static final int MAX = Integer.MAX_VALUE;
    private static final int OK = SortKernel.OK;
    private static final int BADJOB = SortKernel.BADJOB;
    private static final int BADINDEX = SortKernel.BADINDEX;
    private static final int BADSTATE = SortKernel.BADSTATE;
    private static final int BADARG = SortKernel.BADARG;
    private static final int NOSLOT = SortKernel.NOSLOT;
    private static final int NOROOM = SortKernel.NOROOM;
    private static final int INSERTION = 0;
    private static final int HEAP = 1;
    private static final int MERGE = 2;
    private static final int SHELL = 3;
    private static final int QUICK = 4;
    private static final int OPEN = 1;
    private static final int READY = 2;
    private static final int DONE = 3;
    private static final int CANCELLED = 4;

    private static int wrong = 0;
    private static int tests = 0;
    private static String told = "";

    private static void sentence(String words, Runnable test) {
        told = words;
        tests++;
        try {
            test.run();
        } catch (RuntimeException thrown) {
            wrong++;
            System.out.println("\"" + told + "\": a call threw " + thrown);
        }
    }

    private static void due(String call, int got, int want) {
        if (got != want) {
            wrong++;
            System.out.println("\"" + told + "\": " + call + " answered " + got + ", due is " + want);
        }
    }

    private static void dueCells(String when, SortKernel x, int job, int... want) {
        due(when + ": count of " + job, x.job(job, 0), want.length);
        for (int i = 0; i < want.length; i++) {
            due(when + ": get(" + job + ", " + i + ")", x.get(job, i), want[i]);
        }
    }

    private static void dueWords(String when, SortKernel x, int first, int... want) {
        for (int i = 0; i < want.length; i++) {
            due(when + ": word(" + (first + i) + ")", x.word(first + i), want[i]);
        }
    }

    private static void dueFree(String when, SortKernel x, int words, int largest, int blocks) {
        due(when + ": free words", x.count(0), words);
        due(when + ": largest", x.count(1), largest);
        due(when + ": free blocks", x.count(2), blocks);
    }

    private static void dueBlocks(String when, SortKernel x, int job, int cells, int buffer) {
        due(when + ": cells of " + job, x.job(job, 4), cells);
        due(when + ": buffer of " + job, x.job(job, 5), buffer);
    }

    private static void dueTurns(SortKernel x, int... jobs) {
        for (int i = 0; i < jobs.length; i++) {
            due("turn " + i, x.tick(), jobs[i]);
        }
    }

    private static int opened(SortKernel x, int way, int priority, int... numbers) {
        int job = x.open(numbers.length, way, priority);
        for (int i = 0; i < numbers.length; i++) {
            due("put", x.put(job, i, numbers[i]), OK);
        }
        return job;
    }

    private static int submitted(SortKernel x, int way, int priority, int... numbers) {
        int job = opened(x, way, priority, numbers);
        due("submit", x.submit(job), OK);
        return job;
    }

    /** JOB 0 is OPEN, 1 READY, 2 DONE, 3 CANCELLED, 4 was closed, 5 never was; there are no more. */
    private static SortKernel everyState() {
        SortKernel x = new SortKernel(60, 6, 1);
        opened(x, INSERTION, 1, 3, 2, 1);
        submitted(x, INSERTION, 1, 6, 5, 4);
        submitted(x, INSERTION, 2, 8, 7);
        submitted(x, INSERTION, 1, 9);
        opened(x, INSERTION, 1, 10);
        x.cancel(3);
        x.tick();
        x.close(4);
        return x;
    }

    /** What a call answers of the JOBS in each STATE, and of JOBS that there are not. */
    private static void dueOfStates(ToIntBiFunction<SortKernel, Integer> call, int open, int ready, int done,
            int cancelled, int none) {
        due("OPEN", call.applyAsInt(everyState(), 0), open);
        due("READY", call.applyAsInt(everyState(), 1), ready);
        due("DONE", call.applyAsInt(everyState(), 2), done);
        due("CANCELLED", call.applyAsInt(everyState(), 3), cancelled);
        due("closed", call.applyAsInt(everyState(), 4), none);
        due("never opened", call.applyAsInt(everyState(), 5), none);
        for (int job : new int[] {6, 7, 23, 24, 25, 1000, MAX, -1, -2, MIN}) {
            due("job " + job, call.applyAsInt(everyState(), job), none);
        }
    }

    // Promise 1: a new object

    private static void wordsFrom8To3000() {
        int[][] made = {
            {8, 8}, {7, 8}, {9, 9}, {0, 8}, {-1, 8}, {MIN, 8},
            {3000, 3000}, {2999, 2999}, {3001, 3000}, {MAX, 3000}};
        for (int[] m : made) {
            SortKernel x = new SortKernel(m[0], 4, 1);
            due(m[0] + ": words", x.count(7), m[1]);
            dueFree("of " + m[0], x, m[1], m[1], 1);
            int left = m[1];
            for (int job = 0; left > 0; job++) {
                int n = Math.min(left, 1000);
                due("open(" + n + ")", x.open(n, INSERTION, 0), job);
                due("put", x.put(job, n - 1, 77), OK);
                left -= n;
            }
            dueFree("full", x, 0, 0, 0);
            due("the last word", x.word(m[1] - 1), 77);
            due("none behind it", x.word(m[1]), 0);
        }
        due("8 have no room for 9", new SortKernel(7, 1, 1).open(9, INSERTION, 0), NOROOM);
    }

    private static void jobsFrom1To24() {
        int[][] made = {{1, 1}, {0, 1}, {2, 2}, {-1, 1}, {MIN, 1}, {24, 24}, {23, 23}, {25, 24}, {MAX, 24}};
        for (int[] m : made) {
            SortKernel x = new SortKernel(8, m[0], 1);
            for (int job = 0; job < m[1]; job++) {
                due(m[0] + ": open", x.open(0, INSERTION, 0), job);
            }
            due(m[0] + ": open", x.open(0, INSERTION, 0), NOSLOT);
            due(m[0] + ": jobs", x.count(4), m[1]);
        }
    }

    private static void quantumFrom1To200() {
        int[][] made = {{1, 1}, {0, 1}, {2, 2}, {-1, 1}, {MIN, 1}, {200, 200}, {199, 199}, {201, 200}, {MAX, 200}};
        for (int[] m : made) {
            SortKernel x = new SortKernel(500, 2, m[0]);
            due(m[0] + ": quantum", x.count(8), m[1]);
            x.open(500, INSERTION, 0);
            x.submit(0);
            x.tick();
            due(m[0] + ": comparisons of a tick", x.job(0, 3), m[1]);
        }
    }

    private static void aNewObjectIsEmpty() {
        SortKernel x = new SortKernel(10, 2, 5);
        int[] counts = {10, 10, 1, 0, 0, 0, 0, 10, 5};
        for (int what = 0; what < counts.length; what++) {
            due("count(" + what + ")", x.count(what), counts[what]);
        }
        for (int job = -1; job <= 2; job++) {
            due("state", x.state(job), BADJOB);
        }
        due("pack", x.pack(), 0);
        due("run", x.run(3000), 0);
        due("tick", x.tick(), -1);
    }

    private static void objectsAreApart() {
        SortKernel x = new SortKernel(10, 2, 5);
        SortKernel y = new SortKernel(12, 3, 6);
        submitted(x, INSERTION, 1, 3, 2, 1);
        due("state", y.state(0), BADJOB);
        due("word", y.word(0), 0);
        due("tick", y.tick(), -1);
        due("the other's clock", x.count(3), 0);
        due("words", x.count(7), 10);
        due("words", y.count(7), 12);
    }

    // Promise 2: open

    private static void openFrom0To1000() {
        SortKernel x = new SortKernel(3000, 4, 1);
        for (int n : new int[] {-1, 1001, -1000, 3000, 65536, MIN, MAX}) {
            due("open(" + n + ")", x.open(n, INSERTION, 0), BADARG);
        }
        due("open(0)", x.open(0, INSERTION, 0), 0);
        due("open(1000)", x.open(1000, INSERTION, 0), 1);
        due("its count", x.job(0, 0), 0);
        due("its count", x.job(1, 0), 1000);
        due("its last number", x.put(1, 999, 5), OK);
    }

    private static void openHasFiveWays() {
        SortKernel x = new SortKernel(60, 24, 1);
        for (int way : new int[] {-1, 5, -5, 256, MIN, MAX}) {
            due("way " + way, x.open(1, way, 0), BADARG);
        }
        for (int way = INSERTION; way <= QUICK; way++) {
            due("way " + way, x.open(1, way, 0), way);
            due("its way", x.job(way, 1), way);
        }
    }

    private static void openHasFourPriorities() {
        SortKernel x = new SortKernel(60, 24, 1);
        for (int priority : new int[] {-1, 4, -4, 256, MIN, MAX}) {
            due("priority " + priority, x.open(1, INSERTION, priority), BADARG);
        }
        for (int priority = 0; priority <= 3; priority++) {
            due("priority " + priority, x.open(1, INSERTION, priority), priority);
            due("its priority", x.job(priority, 2), priority);
        }
    }

    private static void openedNumbersAreAll0() {
        SortKernel x = new SortKernel(8, 2, 1);
        x.close(opened(x, INSERTION, 0, 1, 2, 3, 4, 5, 6, 7, 8));
        due("open", x.open(8, SHELL, 0), 0);
        dueCells("of words that had others", x, 0, 0, 0, 0, 0, 0, 0, 0, 0);
    }

    private static void openGivesTheLeastNumber() {
        SortKernel x = new SortKernel(60, 5, 1);
        for (int job = 0; job < 5; job++) {
            due("open", x.open(1, INSERTION, 0), job);
        }
        x.close(3);
        x.close(0);
        x.close(4);
        due("the least of three", x.open(1, INSERTION, 0), 0);
        due("the least of two", x.open(1, INSERTION, 0), 3);
        due("the last one", x.open(1, INSERTION, 0), 4);
        due("none", x.open(1, INSERTION, 0), NOSLOT);
    }

    private static void anOpenedJobKnowsNothingOfAnEarlierOne() {
        SortKernel x = new SortKernel(60, 1, 1);
        submitted(x, QUICK, 3, 2, 1);
        x.run(9);
        x.close(0);
        due("open", x.open(3, HEAP, 1), 0);
        int[] told = {3, HEAP, 1, 0, 0, -1, -1, -1, -1};
        for (int what = 0; what < told.length; what++) {
            due("job(0, " + what + ")", x.job(0, what), told[what]);
        }
        due("state", x.state(0), OPEN);
    }

    private static void openNoSlot() {
        SortKernel x = new SortKernel(60, 3, 1);
        opened(x, INSERTION, 0, 1);
        submitted(x, INSERTION, 0, 2);
        submitted(x, INSERTION, 0, 3);
        x.cancel(1);
        x.run(9);
        due("DONE and CANCELLED ones count too", x.open(0, INSERTION, 0), NOSLOT);
        x.close(1);
        due("one is closed", x.open(0, INSERTION, 0), 1);
        due("full again", x.open(0, INSERTION, 0), NOSLOT);
    }

    private static void openNoRoom() {
        SortKernel x = new SortKernel(12, 6, 1);
        for (int job = 0; job < 4; job++) {
            x.open(3, INSERTION, 0);
        }
        due("full", x.open(1, INSERTION, 0), NOROOM);
        x.close(0);
        x.close(2);
        due("6 words are free, but no 4 side by side", x.open(4, INSERTION, 0), NOROOM);
        due("3 are", x.open(3, INSERTION, 0), 0);
        due("2 and 2 are not", x.open(2, MERGE, 0), NOROOM);
        due("1 and 1 are", x.open(1, MERGE, 0), 2);
        dueBlocks("1 and 1", x, 2, 6, 7);
        due("after all of it no number is lost", x.count(4), 4);
    }

    // Promise 3: put

    private static void putOfEachNumber() {
        SortKernel x = new SortKernel(60, 3, 1);
        opened(x, INSERTION, 0, 7, 7);
        x.open(3, INSERTION, 0);
        opened(x, INSERTION, 0, 8, 8);
        due("first", x.put(1, 0, MIN), OK);
        due("last", x.put(1, 2, MAX), OK);
        for (int i : new int[] {-1, 3, -2, 4, 1000, MIN, MAX, MAX - 1}) {
            due("put(1, " + i + ")", x.put(1, i, 5), BADINDEX);
        }
        dueWords("its own alone", x, 0, 7, 7, MIN, 0, MAX, 8, 8);
        due("again", x.put(1, 0, -1), OK);
        dueCells("the later one", x, 1, -1, 0, MAX);
    }

    private static void putOfNoNumbers() {
        for (int way = INSERTION; way <= QUICK; way++) {
            SortKernel x = new SortKernel(60, 3, 1);
            x.open(0, way, 0);
            for (int i = -1; i <= 1; i++) {
                due("put(0, " + i + ")", x.put(0, i, 5), BADINDEX);
            }
            dueWords("nothing", x, 0, 0, 0);
        }
    }

    private static void putNotIntoTheBuffer() {
        SortKernel x = new SortKernel(60, 3, 1);
        x.open(2, MERGE, 0);
        x.open(2, QUICK, 0);
        due("MERGE", x.put(0, 2, 5), BADINDEX);
        due("QUICK", x.put(1, 2, 5), BADINDEX);
        dueWords("nothing", x, 0, 0, 0, 0, 0, 0, 0, 0);
    }

    private static void putAfterResize() {
        SortKernel x = new SortKernel(60, 3, 1);
        x.open(2, INSERTION, 0);
        due("third of two", x.put(0, 2, 5), BADINDEX);
        x.resize(0, 3);
        due("third of three", x.put(0, 2, 5), OK);
        x.resize(0, 1);
        due("second of one", x.put(0, 1, 5), BADINDEX);
        x.resize(0, 0);
        due("first of none", x.put(0, 0, 5), BADINDEX);
    }

    private static void putOfAnOpenJob() {
        dueOfStates((x, job) -> x.put(job, 0, 5), OK, BADSTATE, BADSTATE, BADSTATE, BADJOB);
    }

    // Promise 4: resize

    private static void resizeFrom0To1000() {
        SortKernel x = new SortKernel(3000, 4, 1);
        opened(x, INSERTION, 0, 1, 2, 3);
        for (int n : new int[] {-1, 1001, -3, 3000, 65536, MIN, MAX}) {
            due("resize(0, " + n + ")", x.resize(0, n), BADARG);
        }
        due("resize(0, 1000)", x.resize(0, 1000), OK);
        due("count", x.job(0, 0), 1000);
        due("third", x.get(0, 2), 3);
        due("last", x.get(0, 999), 0);
        due("resize(0, 0)", x.resize(0, 0), OK);
        due("count", x.job(0, 0), 0);
        dueBlocks("none", x, 0, -1, -1);
        dueFree("all given back", x, 3000, 3000, 1);
        due("none to none", x.resize(0, 0), OK);
        due("none to one", x.resize(0, 1), OK);
        dueCells("not what was there", x, 0, 0);
    }

    private static void resizeGivesBackFirst() {
        SortKernel x = new SortKernel(10, 2, 1);
        opened(x, INSERTION, 0, 1, 2, 3, 4, 5, 6);
        due("4 are free, but 10 with its own", x.resize(0, 10), OK);
        dueCells("grown in its place", x, 0, 1, 2, 3, 4, 5, 6, 0, 0, 0, 0);
        due("the same count in a full arena", x.resize(0, 10), OK);
        dueCells("as it was", x, 0, 1, 2, 3, 4, 5, 6, 0, 0, 0, 0);
        due("11 are not", x.resize(0, 11), NOROOM);
        SortKernel y = new SortKernel(10, 3, 1);
        y.open(2, INSERTION, 0);
        opened(y, INSERTION, 0, 1, 2, 3);
        y.open(5, INSERTION, 0);
        y.close(0);
        due("2 ahead and its own 3", y.resize(1, 5), OK);
        dueBlocks("from the first word", y, 1, 0, -1);
        dueWords("moved over its own", y, 0, 1, 2, 3, 0, 0);
    }

    private static void resizeToTheSameCountTakesAnew() {
        SortKernel x = new SortKernel(20, 3, 1);
        x.open(4, INSERTION, 0);
        opened(x, INSERTION, 0, 1, 2, 3);
        x.close(0);
        due("resize", x.resize(1, 3), OK);
        dueBlocks("first fit", x, 1, 0, -1);
        dueWords("old words stay", x, 0, 1, 2, 3, 0, 1, 2, 3);
    }

    private static void resizeKeepsAsManyAsBothHave() {
        SortKernel x = new SortKernel(20, 3, 1);
        opened(x, INSERTION, 0, 1, 2, 3, 4);
        x.resize(0, 3);
        dueCells("one less", x, 0, 1, 2, 3);
        x.resize(0, 4);
        dueCells("one more: not the one that was there", x, 0, 1, 2, 3, 0);
        x.resize(0, 1);
        x.resize(0, 6);
        dueCells("from one", x, 0, 1, 0, 0, 0, 0, 0);
    }

    private static void resizeMovesOverItsOwnWords() {
        SortKernel x = new SortKernel(20, 4, 1);
        x.open(1, INSERTION, 0);
        opened(x, INSERTION, 0, 1, 2, 3, 4, 5);
        x.open(1, INSERTION, 0);
        x.close(0);
        due("one ahead, its own 5", x.resize(1, 6), OK);
        dueWords("down by one", x, 0, 1, 2, 3, 4, 5, 0);
        due("a block behind", x.resize(1, 7), OK);
        dueBlocks("behind", x, 1, 7, -1);
        dueWords("old words stay", x, 0, 1, 2, 3, 4, 5, 0, 0, 1, 2, 3, 4, 5, 0, 0);
        due("the hole that it left", x.resize(1, 2), OK);
        dueBlocks("ahead again", x, 1, 0, -1);
        dueWords("old words stay", x, 0, 1, 2, 3, 4, 5, 0, 0, 1, 2, 3, 4, 5, 0, 0);
    }

    private static void resizeOfMergeHasANewBuffer() {
        SortKernel x = new SortKernel(12, 3, 1);
        opened(x, MERGE, 0, 1, 2, 3, 4);
        due("6 and 6 of 12", x.resize(0, 6), OK);
        dueBlocks("both anew", x, 0, 0, 6);
        dueFree("full", x, 0, 0, 0);
        due("7 and 7 of 12", x.resize(0, 7), NOROOM);
        dueBlocks("as they were", x, 0, 0, 6);
        dueCells("as they were", x, 0, 1, 2, 3, 4, 0, 0);
        due("1 and 1", x.resize(0, 1), OK);
        dueBlocks("side by side", x, 0, 0, 1);
        dueFree("left", x, 10, 10, 1);
        dueWords("the buffer stays as it is", x, 0, 1, 2, 3, 4);
        due("none", x.resize(0, 0), OK);
        dueBlocks("no buffer", x, 0, -1, -1);
        due("2 and 2", x.resize(0, 2), OK);
        dueWords("the buffer stays as it is", x, 0, 0, 0, 3, 4);
    }

    /** The BUFFER comes to where the numbers were. */
    private static void resizeOfMergeKeepsItsNumbers() {
        SortKernel x = new SortKernel(20, 3, 1);
        x.open(4, INSERTION, 0);
        opened(x, MERGE, 0, 1, 2, 3, 4);
        x.close(0);
        due("resize", x.resize(1, 4), OK);
        dueBlocks("cells ahead", x, 1, 0, 4);
        dueWords("numbers, and what was there", x, 0, 1, 2, 3, 4, 1, 2, 3, 4);
    }

    private static void resizeOfQuickKeepsItsBuffer() {
        SortKernel x = new SortKernel(40, 3, 1);
        opened(x, QUICK, 0, 1, 2);
        due("resize(0, 14)", x.resize(0, 14), OK);
        dueBlocks("cells behind the buffer", x, 0, 26, 2);
        dueCells("numbers go with them", x, 0, 1, 2, 0, 0, 0, 0, 0, 0, 0, 0, 0, 0, 0, 0);
        due("resize(0, 15)", x.resize(0, 15), NOROOM);
        dueBlocks("as it was", x, 0, 26, 2);
        due("resize(0, 0)", x.resize(0, 0), OK);
        dueBlocks("the buffer alone", x, 0, -1, 2);
        due("resize(0, 2)", x.resize(0, 2), OK);
        dueBlocks("ahead of the buffer", x, 0, 0, 2);
    }

    private static void resizeNoRoomLeavesAllAsItWas() {
        for (int way = INSERTION; way <= QUICK; way++) {
            int buffer = way == MERGE ? 3 : way == QUICK ? 24 : 0;
            SortKernel x = new SortKernel(5 + 3 + buffer + 1, 4, 1);
            x.open(5, INSERTION, 0);
            opened(x, way, 0, 1, 2, 3);
            opened(x, INSERTION, 0, 9);
            x.close(0);
            due("way " + way + ": resize", x.resize(1, 100), NOROOM);
            due("way " + way + ": just one too many", x.resize(1, way == MERGE ? 6 : 9), NOROOM);
            dueBlocks("way " + way, x, 1, 5, buffer == 0 ? -1 : 8);
            dueCells("way " + way, x, 1, 1, 2, 3);
            dueFree("way " + way, x, 5, 5, 1);
            due("way " + way + ": OPEN", x.state(1), OPEN);
            due("way " + way + ": the block behind", x.get(2, 0), 9);
            due("way " + way + ": closed", x.close(1), OK);
            dueFree("way " + way + ": all given back", x, 8 + buffer, 8 + buffer, 1);
        }
    }

    private static void resizeNoRoomOfNone() {
        for (int way : new int[] {INSERTION, MERGE}) {
            SortKernel x = new SortKernel(8, 3, 1);
            x.open(0, way, 0);
            due("resize(0, 9)", x.resize(0, 9), NOROOM);
            dueBlocks("none", x, 0, -1, -1);
            dueFree("all", x, 8, 8, 1);
        }
    }

    private static void resizeNoRoomOfOne() {
        for (int way = INSERTION; way <= QUICK; way++) {
            SortKernel x = new SortKernel(30, 3, 1);
            opened(x, way, 0, 7);
            int free = x.count(0);
            due("way " + way + ": resize", x.resize(0, 31), NOROOM);
            dueBlocks("way " + way, x, 0, 0, way == MERGE || way == QUICK ? 1 : -1);
            dueCells("way " + way, x, 0, 7);
            dueFree("way " + way, x, free, free, 1);
        }
    }

    private static void resizeOfAnOpenJob() {
        dueOfStates((x, job) -> x.resize(job, 2), OK, BADSTATE, BADSTATE, BADSTATE, BADJOB);
    }

    // Promise 5: submit

    private static void submitOfAnOpenJob() {
        dueOfStates((x, job) -> x.submit(job), OK, BADSTATE, BADSTATE, BADSTATE, BADJOB);
    }

    private static void submitGoesToTheEndOfItsQueue() {
        SortKernel x = new SortKernel(60, 6, 1);
        submitted(x, INSERTION, 1, 1, 2);
        due("an empty queue", x.job(0, 6), 0);
        submitted(x, INSERTION, 1, 1, 2);
        due("one ahead", x.job(1, 6), 1);
        submitted(x, INSERTION, 3, 1, 2);
        due("another queue", x.job(2, 6), 0);
        submitted(x, INSERTION, 0, 1, 2);
        due("another queue", x.job(3, 6), 0);
        due("not by its number", x.open(2, INSERTION, 1), 4);
        due("not by its number", x.open(2, INSERTION, 1), 5);
        x.submit(5);
        x.submit(4);
        due("three ahead", x.job(4, 6), 3);
        due("two ahead", x.job(5, 6), 2);
        dueTurns(x, 2, 0, 1, 5, 4, 3, -1);
    }

    private static void submitOfNoNumbersIsReady() {
        for (int way = INSERTION; way <= QUICK; way++) {
            for (int n = 0; n <= 1; n++) {
                SortKernel x = new SortKernel(60, 6, 1);
                x.open(n, way, 0);
                due("submit", x.submit(0), OK);
                due("READY, not DONE", x.state(0), READY);
                due("READY ones", x.count(5), 1);
                due("run", x.run(3000), 1);
                due("DONE", x.state(0), DONE);
                due("at", x.job(0, 8), 1);
                due("comparisons", x.count(6), 0);
            }
        }
    }

    // Promise 6: tick

    private static void tickWithNoneReady() {
        SortKernel x = everyState();
        int clock = x.count(3);
        x.cancel(1);
        due("OPEN, DONE and CANCELLED ones don't run", x.tick(), -1);
        due("the clock", x.count(3), clock + 1);
        due("comparisons", x.count(6), 1);
        due("OPEN", x.state(0), OPEN);
        due("CANCELLED", x.state(1), CANCELLED);
    }

    private static void tickTellsTheJobThatRan() {
        SortKernel x = new SortKernel(60, 24, 1);
        for (int job = 0; job < 24; job++) {
            x.open(2, INSERTION, 0);
        }
        x.submit(23);
        due("the last number", x.tick(), 23);
        x.submit(0);
        due("the first number", x.tick(), 0);
        due("none", x.tick(), -1);
    }

    // Promise 7: run

    private static void runFrom0To3000() {
        SortKernel x = new SortKernel(60, 4, 1);
        submitted(x, INSERTION, 0, 2, 1);
        for (int n : new int[] {-1, 3001, -3000, 65536, MIN, MAX}) {
            due("run(" + n + ")", x.run(n), BADARG);
        }
        due("run(0)", x.run(0), 0);
        due("no tick", x.count(3), 0);
        due("READY", x.state(0), READY);
        due("run(3000)", x.run(3000), 1);
    }

    /** The last three numbers go all the way down: 997, 998 and 999 COMPARISONS behind the 996. */
    private static void runOfAllTicks() {
        SortKernel x = new SortKernel(1000, 1, 1);
        x.open(1000, INSERTION, 0);
        for (int i = 0; i < 3; i++) {
            x.put(0, 997 + i, -1 - i);
        }
        x.submit(0);
        int all = 996 + 997 + 998 + 999;
        due("run(3000)", x.run(3000), 3000);
        due("clock", x.count(3), 3000);
        due("comparisons", x.job(0, 3), 3000);
        due("READY", x.state(0), READY);
        due("run(3000)", x.run(3000), all - 3000);
        due("DONE", x.state(0), DONE);
        due("when", x.job(0, 8), all);
    }

    private static void runTillNoneIsReady() {
        SortKernel x = new SortKernel(60, 4, 1);
        due("none", x.run(5), 0);
        due("no tick", x.count(3), 0);
        submitted(x, INSERTION, 0, 1, 2, 3);
        submitted(x, INSERTION, 1, 1, 2);
        due("just as many", x.run(3), 3);
        due("none", x.run(1), 0);
        due("clock", x.count(3), 3);
        submitted(x, INSERTION, 0, 1, 2, 3);
        due("one less", x.run(1), 1);
        due("READY", x.state(2), READY);
        due("one more", x.run(2), 1);
        due("clock", x.count(3), 5);
    }

    // Promise 8: state

    private static void stateOfEach() {
        dueOfStates((x, job) -> x.state(job), OPEN, READY, DONE, CANCELLED, BADJOB);
    }

    // Promise 9: get

    private static void getOfEach() {
        dueOfStates((x, job) -> x.get(job, 0), 3, 6, 7, 9, 0);
    }

    private static void getOfNoNumber() {
        SortKernel x = new SortKernel(60, 4, 1);
        opened(x, INSERTION, 0, 7, 7);
        opened(x, INSERTION, 0, 1, 2, 3);
        opened(x, INSERTION, 0, 8, 8);
        due("first", x.get(1, 0), 1);
        due("last", x.get(1, 2), 3);
        for (int i : new int[] {-1, 3, -2, 4, 1000, MIN, MAX, MAX - 1}) {
            due("get(1, " + i + ")", x.get(1, i), 0);
        }
        SortKernel y = new SortKernel(60, 4, 1);
        y.close(opened(y, INSERTION, 0, 1, 2, 3));
        y.open(0, MERGE, 0);
        y.open(0, QUICK, 0);
        for (int i = -1; i <= 1; i++) {
            due("none: get(0, " + i + ")", y.get(0, i), 0);
            due("none: get(1, " + i + ")", y.get(1, i), 0);
        }
    }

    private static void getNotOfTheBuffer() {
        SortKernel x = new SortKernel(60, 4, 1);
        submitted(x, MERGE, 0, 2, 1);
        x.run(9);
        due("the buffer's", x.word(2), 1);
        due("get(0, 2)", x.get(0, 2), 0);
    }

    private static void getAsItIsNow() {
        SortKernel x = new SortKernel(60, 4, 1);
        opened(x, INSERTION, 0, 1);
        submitted(x, INSERTION, 0, 3, 2, 1);
        x.tick();
        dueCells("under way", x, 1, 2, 3, 1);
        x.close(0);
        x.pack();
        dueCells("moved", x, 1, 2, 3, 1);
        x.cancel(1);
        dueCells("CANCELLED", x, 1, 2, 3, 1);
        x.close(1);
        due("closed", x.get(1, 0), 0);
        due("its word stays", x.word(0), 2);
    }

    // Promise 10: cancel

    private static void cancelOfAReadyJob() {
        dueOfStates((x, job) -> x.cancel(job), BADSTATE, OK, BADSTATE, BADSTATE, BADJOB);
    }

    private static void cancelLeavesItsQueue() {
        for (int place = 0; place < 3; place++) {
            SortKernel x = new SortKernel(60, 4, 1);
            for (int job = 0; job < 3; job++) {
                submitted(x, INSERTION, 1, 1, 2);
            }
            due("cancel", x.cancel(place), OK);
            due("READY ones", x.count(5), 2);
            due("in no queue", x.job(place, 6), -1);
            submitted(x, INSERTION, 1, 1, 2);
            due("behind two", x.job(3, 6), 2);
            for (int job = 0; job < 4; job++) {
                if (job != place) {
                    due("turn", x.tick(), job);
                }
            }
            due("none", x.tick(), -1);
            due("CANCELLED", x.state(place), CANCELLED);
        }
        SortKernel y = new SortKernel(60, 4, 1);
        submitted(y, INSERTION, 1, 1, 2);
        y.cancel(0);
        due("the only one", y.tick(), -1);
        due("READY ones", y.count(5), 0);
        submitted(y, INSERTION, 1, 1, 2);
        due("the queue can be used again", y.tick(), 1);
    }

    private static void cancelledKeepsWhatItHas() {
        SortKernel x = new SortKernel(60, 4, 1);
        submitted(x, QUICK, 1, 3, 2, 1, 0);
        x.run(2);
        x.cancel(0);
        int[] told = {4, QUICK, 1, 2, 0, 4, -1, 0, -1};
        for (int what = 0; what < told.length; what++) {
            due("job(0, " + what + ")", x.job(0, what), told[what]);
        }
        due("its words are still taken", x.count(0), 32);
        due("it is still a job", x.count(4), 1);
    }

    // Promise 11: raise

    private static void raiseFrom0To3() {
        SortKernel x = everyState();
        for (int priority : new int[] {-1, 4, -4, 256, MIN, MAX}) {
            due("OPEN: " + priority, x.raise(0, priority), BADARG);
            due("READY: " + priority, x.raise(1, priority), BADARG);
        }
        due("as it was", x.job(0, 2), 1);
        due("as it was", x.job(1, 2), 1);
        for (int priority = 0; priority <= 3; priority++) {
            due("OPEN: " + priority, x.raise(0, priority), OK);
            due("OPEN: its priority", x.job(0, 2), priority);
            due("READY: " + priority, x.raise(1, priority), OK);
            due("READY: its priority", x.job(1, 2), priority);
        }
    }

    private static void raiseOfEach() {
        dueOfStates((x, job) -> x.raise(job, 3), OK, OK, BADSTATE, BADSTATE, BADJOB);
    }

    private static void raiseGoesToTheEnd() {
        SortKernel x = new SortKernel(60, 8, 1);
        for (int priority : new int[] {1, 1, 1, 2, 0}) {
            submitted(x, INSERTION, priority, 1, 2);
        }
        due("the same", x.raise(0, 1), OK);
        due("first to last", x.job(0, 6), 2);
        due("the same", x.raise(0, 1), OK);
        due("last to last", x.job(0, 6), 2);
        due("the same", x.raise(2, 1), OK);
        due("middle to last", x.job(2, 6), 2);
        due("to a higher one", x.raise(1, 2), OK);
        due("behind the one there", x.job(1, 6), 1);
        due("to a lower one", x.raise(2, 0), OK);
        due("behind the one there", x.job(2, 6), 1);
        due("to an empty one", x.raise(4, 3), OK);
        due("alone", x.job(4, 6), 0);
        due("still five", x.count(5), 5);
        dueTurns(x, 4, 3, 1, 0, 2, -1);
    }

    private static void raiseOfAnOpenJobIsNoQueue() {
        SortKernel x = new SortKernel(60, 8, 1);
        opened(x, INSERTION, 0, 1, 2);
        x.raise(0, 3);
        due("not READY", x.job(0, 6), -1);
        due("READY ones", x.count(5), 0);
        due("none", x.tick(), -1);
        submitted(x, INSERTION, 2, 1, 2);
        x.submit(0);
        dueTurns(x, 0, 1, -1);
    }

    // Promise 12: close

    private static void closeOfEach() {
        dueOfStates((x, job) -> x.close(job), OK, BADSTATE, OK, OK, BADJOB);
    }

    private static void closeGivesBackAllBlocks() {
        for (int way = INSERTION; way <= QUICK; way++) {
            for (int n = 0; n <= 3; n++) {
                SortKernel x = new SortKernel(60, 3, 1);
                x.open(5, INSERTION, 0);
                x.open(n, way, 0);
                x.open(4, INSERTION, 0);
                due("close", x.close(1), OK);
                due("free", x.count(0), 51);
                due("again", x.close(1), BADJOB);
                x.close(0);
                x.close(2);
                dueFree("way " + way + " of " + n, x, 60, 60, 1);
                due("jobs", x.count(4), 0);
            }
        }
    }

    private static void closedIsThereNoMore() {
        SortKernel x = new SortKernel(60, 3, 1);
        submitted(x, INSERTION, 0, 2, 1);
        x.run(9);
        x.close(0);
        for (int what = 0; what <= 8; what++) {
            due("job(0, " + what + ")", x.job(0, what), -1);
        }
        due("state", x.state(0), BADJOB);
        due("get", x.get(0, 0), 0);
        due("its comparisons still count", x.count(6), 1);
        dueWords("its words stay", x, 0, 1, 2);
    }

    private static void everyCallOfARunOpensOrCloses() {
        SortKernel x = new SortKernel(100, 2, 1);
        for (int round = 0; round < 256; round++) {
            int way = round % 5;
            due("open in round " + round, x.open(20 + round % 7, way, round % 4), 0);
            due("close in round " + round, x.close(0), OK);
        }
    }

    // Promise 13: pack

    private static void packTellsHowManyWereMoved() {
        SortKernel x = new SortKernel(60, 6, 1);
        due("none taken", x.pack(), 0);
        x.open(1, INSERTION, 0);
        x.open(2, INSERTION, 0);
        x.open(4, MERGE, 0);
        x.open(3, QUICK, 0);
        due("no gap", x.pack(), 0);
        x.close(1);
        due("4 and 4, 3 and 24", x.pack(), 35);
        due("again", x.pack(), 0);
        x.close(2);
        due("3 and 24", x.pack(), 27);
        x.close(3);
        due("a gap behind only", x.pack(), 0);
        x.close(0);
        due("none taken", x.pack(), 0);
    }

    private static void packMakesRoom() {
        SortKernel x = new SortKernel(12, 6, 1);
        for (int job = 0; job < 4; job++) {
            opened(x, INSERTION, 0, job, job, job);
        }
        x.close(0);
        x.close(2);
        due("no room", x.open(6, INSERTION, 0), NOROOM);
        due("pack", x.pack(), 6);
        due("room", x.open(6, INSERTION, 0), 0);
        dueBlocks("behind", x, 0, 6, -1);
        dueCells("moved", x, 1, 1, 1, 1);
        dueCells("moved", x, 3, 3, 3, 3);
        dueFree("full", x, 0, 0, 0);
    }

    private static void packedJobsAreUsedOn() {
        SortKernel x = new SortKernel(30, 6, 1);
        x.open(5, INSERTION, 0);
        opened(x, MERGE, 0, 1, 2, 3);
        opened(x, INSERTION, 0, 8, 9);
        x.close(0);
        due("pack", x.pack(), 8);
        due("put", x.put(1, 2, 33), OK);
        dueWords("to the new place alone", x, 0, 1, 2, 33, 0, 0, 0, 8, 9, 0, 0, 0, 8, 9);
        due("resize", x.resize(2, 3), OK);
        dueBlocks("in its new place", x, 2, 6, -1);
        dueCells("one more", x, 2, 8, 9, 0);
        due("close", x.close(1), OK);
        dueFree("its new words are given back", x, 27, 21, 2);
        due("open", x.open(6, INSERTION, 0), 0);
        dueBlocks("just there", x, 0, 0, -1);
        due("close", x.close(2), OK);
        dueFree("all behind", x, 24, 24, 1);
    }

    // Promise 14: word

    private static void wordOfEachPlace() {
        SortKernel x = new SortKernel(8, 1, 1);
        opened(x, INSERTION, 0, 1, 2, 3, 4, 5, 6, 7, 8);
        due("first", x.word(0), 1);
        due("last", x.word(7), 8);
        for (int i : new int[] {-1, 8, 9, -8, 3000, MIN, MAX}) {
            due("word(" + i + ")", x.word(i), 0);
        }
        SortKernel y = new SortKernel(3000, 3, 1);
        for (int job = 0; job < 3; job++) {
            y.open(1000, INSERTION, 0);
        }
        y.put(2, 999, 77);
        due("last of 3000", y.word(2999), 77);
        due("behind 3000", y.word(3000), 0);
    }

    // Promise 15: job

    private static void jobOfEachState() {
        int[][] told = {
            {3, INSERTION, 1, 0, 0, -1, -1, -1, -1},
            {3, INSERTION, 1, 0, 3, -1, 0, 0, -1},
            {2, INSERTION, 2, 1, 6, -1, -1, 0, 1},
            {1, INSERTION, 1, 0, 8, -1, -1, 0, -1}};
        SortKernel x = everyState();
        for (int job = 0; job < told.length; job++) {
            for (int what = 0; what <= 8; what++) {
                due("job(" + job + ", " + what + ")", x.job(job, what), told[job][what]);
            }
        }
    }

    private static void jobOfOtherQuestions() {
        for (int what : new int[] {-1, 9, 10, -9, 256, MIN, MAX}) {
            dueOfStates((x, job) -> x.job(job, what), -1, -1, -1, -1, -1);
        }
    }

    private static void jobOfNoJob() {
        SortKernel x = everyState();
        for (int job : new int[] {4, 5, 6, 24, -1, MIN, MAX}) {
            for (int what = -1; what <= 9; what++) {
                due("job(" + job + ", " + what + ")", x.job(job, what), -1);
            }
        }
    }

    private static void jobWithoutCellsOrBuffer() {
        SortKernel x = new SortKernel(60, 6, 1);
        int[][] blocks = {{-1, -1}, {-1, -1}, {-1, -1}, {-1, -1}, {-1, 0}};
        for (int way = INSERTION; way <= QUICK; way++) {
            x.open(0, way, 0);
            dueBlocks("way " + way, x, way, blocks[way][0], blocks[way][1]);
            due("count", x.job(way, 0), 0);
        }
    }

    private static void jobTimes() {
        SortKernel x = new SortKernel(60, 6, 1);
        opened(x, INSERTION, 0, 2, 1);
        due("not submitted", x.job(0, 7), -1);
        x.submit(0);
        due("submitted at 0", x.job(0, 7), 0);
        due("not DONE", x.job(0, 8), -1);
        x.tick();
        due("DONE at 1", x.job(0, 8), 1);
        x.tick();
        x.tick();
        submitted(x, INSERTION, 0, 3, 2, 1);
        due("submitted at 3", x.job(1, 7), 3);
        x.tick();
        due("not DONE at 4", x.job(1, 8), -1);
        x.run(9);
        due("DONE at 6", x.job(1, 8), 6);
        due("submitted at 3", x.job(1, 7), 3);
        due("the earlier one", x.job(0, 8), 1);
    }

    private static void jobAheadInItsOwnQueueOnly() {
        SortKernel x = new SortKernel(60, 6, 1);
        submitted(x, INSERTION, 3, 1, 2);
        submitted(x, INSERTION, 1, 1, 2);
        opened(x, INSERTION, 1, 1, 2);
        submitted(x, INSERTION, 1, 1, 2);
        submitted(x, INSERTION, 0, 1, 2);
        int[] ahead = {0, 0, -1, 1, 0};
        for (int job = 0; job < ahead.length; job++) {
            due("ahead of " + job, x.job(job, 6), ahead[job]);
        }
    }

    // Promise 16: count

    private static void countOfOtherQuestions() {
        SortKernel x = everyState();
        for (int what : new int[] {-1, 9, 10, -9, 256, MIN, MAX}) {
            due("count(" + what + ")", x.count(what), -1);
        }
    }

    private static void countOfAFullArena() {
        SortKernel x = new SortKernel(8, 3, 1);
        x.open(8, INSERTION, 0);
        dueFree("full", x, 0, 0, 0);
        x.resize(0, 7);
        dueFree("the last word", x, 1, 1, 1);
        x.open(1, INSERTION, 0);
        x.close(0);
        dueFree("all but the last word", x, 7, 7, 1);
        x.close(1);
        dueFree("empty", x, 8, 8, 1);
    }

    private static void countOfTheLargest() {
        SortKernel x = new SortKernel(20, 8, 1);
        for (int n : new int[] {2, 1, 5, 1, 5, 1}) {
            x.open(n, INSERTION, 0);
        }
        dueFree("behind", x, 5, 5, 1);
        x.close(0);
        dueFree("a smaller one ahead", x, 7, 5, 2);
        x.close(2);
        x.close(4);
        dueFree("like ones", x, 17, 5, 4);
        x.close(3);
        dueFree("a larger one between", x, 18, 11, 3);
    }

    private static void countOfJobs() {
        SortKernel x = new SortKernel(20, 2, 1);
        due("none", x.count(4), 0);
        due("none READY", x.count(5), 0);
        submitted(x, INSERTION, 0, 1, 2);
        opened(x, INSERTION, 0, 1, 2);
        due("full", x.count(4), 2);
        due("one READY", x.count(5), 1);
        x.submit(1);
        due("all READY", x.count(5), 2);
        x.run(9);
        due("DONE ones are JOBS", x.count(4), 2);
        due("none READY", x.count(5), 0);
    }

    private static void countOfAllComparisonsEver() {
        SortKernel x = new SortKernel(500, 2, 200);
        submitted(x, INSERTION, 0, 3, 2, 1);
        submitted(x, INSERTION, 0, 1, 2, 3, 4, 5);
        x.run(9);
        due("of both", x.count(6), 7);
        x.close(0);
        due("of one that is there no more", x.count(6), 7);
        x.open(400, INSERTION, 0);
        x.submit(0);
        x.tick();
        x.cancel(0);
        due("of one that was CANCELLED", x.count(6), 207);
        due("pack", x.pack() >= 0 ? 1 : 0, 1);
        due("as it was", x.count(6), 207);
    }

    private static void sentencesOfPromises1To4() {
        sentence("1: that many WORDS (8 .. 3000); others count as the nearest", PromiseEdges::wordsFrom8To3000);
        sentence("1: that many JOBS at one time (1 .. 24)", PromiseEdges::jobsFrom1To24);
        sentence("1: a QUANTUM (1 .. 200)", PromiseEdges::quantumFrom1To200);
        sentence("1: a new object (nothing in it)", PromiseEdges::aNewObjectIsEmpty);
        sentence("1: a new object (of its own)", PromiseEdges::objectsAreApart);
        sentence("2: n numbers (0 .. 1000); BADARG", PromiseEdges::openFrom0To1000);
        sentence("2: a way of sorting; BADARG", PromiseEdges::openHasFiveWays);
        sentence("2: a priority; BADARG", PromiseEdges::openHasFourPriorities);
        sentence("2: all 0", PromiseEdges::openedNumbersAreAll0);
        sentence("2: its number, the least that stands for none", PromiseEdges::openGivesTheLeastNumber);
        sentence("2: is OPEN", PromiseEdges::anOpenedJobKnowsNothingOfAnEarlierOne);
        sentence("2: NOSLOT", PromiseEdges::openNoSlot);
        sentence("2: NOROOM", PromiseEdges::openNoRoom);
        sentence("3: a number: BADINDEX", PromiseEdges::putOfEachNumber);
        sentence("3: a number (none has any): BADINDEX", PromiseEdges::putOfNoNumbers);
        sentence("3: a number (of the JOB, not of its BUFFER): BADINDEX", PromiseEdges::putNotIntoTheBuffer);
        sentence("3: a number (of those that it has now): BADINDEX", PromiseEdges::putAfterResize);
        sentence("3: of an OPEN JOB: BADJOB, BADSTATE", PromiseEdges::putOfAnOpenJob);
        sentence("4: BADARG (n is not 0 .. 1000)", PromiseEdges::resizeFrom0To1000);
        sentence("4: these are GIVEN back first", PromiseEdges::resizeGivesBackFirst);
        sentence("4: then it TAKES as told", PromiseEdges::resizeToTheSameCountTakesAnew);
        sentence("4: the first numbers stay (as many as both have), others are 0",
            PromiseEdges::resizeKeepsAsManyAsBothHave);
        sentence("4: the first numbers stay (over its own WORDS)", PromiseEdges::resizeMovesOverItsOwnWords);
        sentence("4: a MERGE one n WORDS in place of its BUFFER", PromiseEdges::resizeOfMergeHasANewBuffer);
        sentence("4: the first numbers stay (where its BUFFER comes to)",
            PromiseEdges::resizeOfMergeKeepsItsNumbers);
        sentence("4: n CELLS in place of those that it has (a QUICK one)",
            PromiseEdges::resizeOfQuickKeepsItsBuffer);
        sentence("4: NOROOM (all is as it was then)", PromiseEdges::resizeNoRoomLeavesAllAsItWas);
        sentence("4: NOROOM (it had none)", PromiseEdges::resizeNoRoomOfNone);
        sentence("4: NOROOM (it had one)", PromiseEdges::resizeNoRoomOfOne);
        sentence("4: an OPEN JOB: BADJOB, BADSTATE", PromiseEdges::resizeOfAnOpenJob);
    }

    private static void sentencesOfPromises5To11() {
        sentence("5: an OPEN JOB: BADJOB, BADSTATE", PromiseEdges::submitOfAnOpenJob);
        sentence("5: at the end of its priority's QUEUE", PromiseEdges::submitGoesToTheEndOfItsQueue);
        sentence("5: becomes READY (without a COMPARISON)", PromiseEdges::submitOfNoNumbersIsReady);
        sentence("6: -1 if none is READY", PromiseEdges::tickWithNoneReady);
        sentence("6: the JOB that ran", PromiseEdges::tickTellsTheJobThatRan);
        sentence("7: 0 .. 3000; BADARG for others", PromiseEdges::runFrom0To3000);
        sentence("7: up to n TICKS", PromiseEdges::runOfAllTicks);
        sentence("7: till no JOB is READY", PromiseEdges::runTillNoneIsReady);
        sentence("8: a JOB's STATE; BADJOB", PromiseEdges::stateOfEach);
        sentence("9: 0 if there is no such JOB", PromiseEdges::getOfEach);
        sentence("9: 0 if there is no such number", PromiseEdges::getOfNoNumber);
        sentence("9: 0 if there is no such number (of its BUFFER)", PromiseEdges::getNotOfTheBuffer);
        sentence("9: a JOB's CELL as it is now", PromiseEdges::getAsItIsNow);
        sentence("10: a READY JOB is CANCELLED: BADJOB, BADSTATE", PromiseEdges::cancelOfAReadyJob);
        sentence("10: and leaves its QUEUE", PromiseEdges::cancelLeavesItsQueue);
        sentence("10: is CANCELLED (and has what it had)", PromiseEdges::cancelledKeepsWhatItHas);
        sentence("11: another priority (0 .. 3): BADARG", PromiseEdges::raiseFrom0To3);
        sentence("11: BADJOB, BADSTATE (DONE, CANCELLED)", PromiseEdges::raiseOfEach);
        sentence("11: to the end of that one's QUEUE (also if it is the same)", PromiseEdges::raiseGoesToTheEnd);
        sentence("11: a READY one goes to the end (an OPEN one does not)",
            PromiseEdges::raiseOfAnOpenJobIsNoQueue);
    }

    private static void sentencesOfPromises12To16() {
        sentence("12: a JOB that isn't READY: BADJOB, BADSTATE", PromiseEdges::closeOfEach);
        sentence("12: its BLOCKS are GIVEN back", PromiseEdges::closeGivesBackAllBlocks);
        sentence("12: is there no more", PromiseEdges::closedIsThereNoMore);
        sentence("12: is there no more (in each of 512 calls)", PromiseEdges::everyCallOfARunOpensOrCloses);
        sentence("13: how many WORDS were moved", PromiseEdges::packTellsHowManyWereMoved);
        sentence("13: PACKING", PromiseEdges::packMakesRoom);
        sentence("13: PACKING (what is moved is used on)", PromiseEdges::packedJobsAreUsedOn);
        sentence("14: 0 if there is none such", PromiseEdges::wordOfEachPlace);
        sentence("15: of a JOB in each STATE", PromiseEdges::jobOfEachState);
        sentence("15: -1 for others", PromiseEdges::jobOfOtherQuestions);
        sentence("15: -1 for no such JOB", PromiseEdges::jobOfNoJob);
        sentence("15: NONE, that is -1, without such", PromiseEdges::jobWithoutCellsOrBuffer);
        sentence("15: both -1 as long as that was not", PromiseEdges::jobTimes);
        sentence("15: how many READY ones are ahead (-1 if it isn't READY)",
            PromiseEdges::jobAheadInItsOwnQueueOnly);
        sentence("16: -1 for others", PromiseEdges::countOfOtherQuestions);
        sentence("16: free WORDS, the largest, free BLOCKS (full, empty)", PromiseEdges::countOfAFullArena);
        sentence("16: those of the largest free BLOCK", PromiseEdges::countOfTheLargest);
        sentence("16: JOBS, READY ones (none, all)", PromiseEdges::countOfJobs);
        sentence("16: COMPARISONS of all JOBS ever", PromiseEdges::countOfAllComparisonsEver);
    }

    public static void main(String[] args) {
        sentencesOfPromises1To4();
        sentencesOfPromises5To11();
        sentencesOfPromises12To16();
        System.out.println(wrong == 0 ? tests + " sentences of the promises hold" : wrong + " answers are not as due");
        if (wrong != 0) {
            System.exit(1);
        }
    }
}

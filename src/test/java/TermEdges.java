import java.util.ArrayList;
import java.util.Arrays;
import java.util.List;
import java.util.function.ToIntFunction;

/** Each sentence of the Terms that names a boundary case has a test of its own here. */
public final class TermEdges {
    private static final int MIN = Integer.MIN_VALUE;
    private static final int MAX = Integer.MAX_VALUE;
    private static final int INSERTION = 0;
    private static final int HEAP = 1;
    private static final int MERGE = 2;
    private static final int SHELL = 3;
    private static final int QUICK = 4;
    private static final int OPEN = 1;
    private static final int READY = 2;
    private static final int DONE = 3;
    private static final int CANCELLED = 4;

    private static int wrong = 0;
    private static int tests = 0;
    private static String told = "";

    private static void sentence(String words, Runnable test) {
        told = words;
        tests++;
        try {
            test.run();
        } catch (RuntimeException thrown) {
            wrong++;
            System.out.println("\"" + told + "\": a call threw " + thrown);
        }
    }

    private static void due(String call, int got, int want) {
        if (got != want) {
            wrong++;
            System.out.println("\"" + told + "\": " + call + " answered " + got + ", due is " + want);
        }
    }

    private static void dueWords(String when, SortKernel x, int first, int... want) {
        for (int i = 0; i < want.length; i++) {
            due(when + ": word(" + (first + i) + ")", x.word(first + i), want[i]);
        }
    }

    private static void dueFree(String when, SortKernel x, int words, int largest, int blocks) {
        due(when + ": free words", x.count(0), words);
        due(when + ": largest", x.count(1), largest);
        due(when + ": free blocks", x.count(2), blocks);
    }

    private static void dueBlocks(String when, SortKernel x, int job, int cells, int buffer) {
        due(when + ": cells of " + job, x.job(job, 4), cells);
        due(when + ": buffer of " + job, x.job(job, 5), buffer);
    }

    private static void dueTurns(SortKernel x, int... jobs) {
        for (int i = 0; i < jobs.length; i++) {
            due("turn " + i, x.tick(), jobs[i]);
        }
    }

    private static int opened(SortKernel x, int way, int priority, int... numbers) {
        int job = x.open(numbers.length, way, priority);
        for (int i = 0; i < numbers.length; i++) {
            due("put", x.put(job, i, numbers[i]), SortKernel.OK);
        }
        return job;
    }

    private static int submitted(SortKernel x, int way, int priority, int... numbers) {
        int job = opened(x, way, priority, numbers);
        due("submit", x.submit(job), SortKernel.OK);
        return job;
    }

    private static int[] upTo(int n) {
        int[] row = new int[n];
        for (int i = 0; i < n; i++) {
            row[i] = i + 1;
        }
        return row;
    }

    /** An ARENA whose WORDS are 1, 2, .. and all free. */
    private static SortKernel used(int words, int jobs, int quantum) {
        SortKernel x = new SortKernel(words, jobs, quantum);
        x.close(opened(x, INSERTION, 0, upTo(words)));
        return x;
    }

    /** JOBS of these many numbers side by side; each WORD that they don't have is free behind. */
    private static SortKernel rows(int words, int... sizes) {
        SortKernel x = new SortKernel(words, 24, 1);
        for (int i = 0; i < sizes.length; i++) {
            due("open", x.open(sizes[i], INSERTION, 0), i);
        }
        return x;
    }

    private static void allClosed(SortKernel x, int... jobs) {
        for (int job : jobs) {
            due("close(" + job + ")", x.close(job), SortKernel.OK);
        }
    }

    // Terms 1: THE ARENA

    private static void wordsAreZeroAtFirst() {
        for (int words : new int[] {8, 9, 400}) {
            SortKernel x = new SortKernel(words, 1, 1);
            for (int i = 0; i < words; i++) {
                due("word(" + i + ")", x.word(i), 0);
            }
        }
    }

    private static void wordsHave32Bits() {
        SortKernel x = new SortKernel(8, 1, 1);
        int[] edges = {MIN, MAX, -1, 1, MIN + 1, MAX - 1, 0x10000, 0x80};
        opened(x, INSERTION, 0, edges);
        dueWords("all bits", x, 0, edges);
    }

    private static void touchingFreeBlocksAreOne() {
        SortKernel x = rows(9, 3, 3, 3);
        dueFree("full", x, 0, 0, 0);
        allClosed(x, 0);
        dueFree("one", x, 3, 3, 1);
        allClosed(x, 2);
        dueFree("two that don't touch", x, 6, 3, 2);
        due("neither has 4", x.open(4, INSERTION, 0), SortKernel.NOROOM);
        allClosed(x, 1);
        dueFree("three that touch", x, 9, 9, 1);
        due("all of it", x.open(9, INSERTION, 0), 0);
        dueBlocks("from the first word", x, 0, 0, -1);
    }

    /** Free ones: 2 WORDS from 0, 4 from 3, 3 from 8, and 1, the last one, from 12. */
    private static SortKernel holes() {
        SortKernel x = rows(13, 2, 1, 4, 1, 3, 1);
        allClosed(x, 0, 2, 4);
        dueFree("four holes", x, 10, 4, 4);
        return x;
    }

    private static void firstFreeBlockThatHasAsManyGivesItsFirst() {
        int[][] takes = {{1, 0}, {2, 0}, {3, 3}, {4, 3}};
        for (int[] t : takes) {
            SortKernel x = holes();
            due("open(" + t[0] + ")", x.open(t[0], SHELL, 0), 0);
            dueBlocks("the first that has as many", x, 0, t[1], -1);
        }
        SortKernel x = holes();
        due("one more than any has", x.open(5, SHELL, 0), SortKernel.NOROOM);
        x.open(3, SHELL, 0);
        x.open(3, SHELL, 0);
        dueBlocks("a hole that is just as large", x, 2, 8, -1);
        x.open(1, SHELL, 0);
        x.open(1, SHELL, 0);
        x.open(1, SHELL, 0);
        dueBlocks("the hole's first", x, 4, 0, -1);
        dueBlocks("the hole's second", x, 6, 1, -1);
        dueBlocks("what is left of another one", x, 7, 6, -1);
        due("the last word", x.open(1, SHELL, 0), 8);
        dueBlocks("the last word", x, 8, 12, -1);
        due("none left", x.open(1, SHELL, 0), SortKernel.NOROOM);
    }

    private static void givenBackTogetherWithFreeOnesBeside() {
        SortKernel x = rows(15, 3, 3, 3, 3, 3);
        allClosed(x, 2);
        dueFree("none beside", x, 3, 3, 1);
        allClosed(x, 1);
        dueFree("one behind", x, 6, 6, 1);
        allClosed(x, 3);
        dueFree("one ahead", x, 9, 9, 1);
        due("taken again", x.open(3, INSERTION, 0), 1);
        due("taken again", x.open(3, INSERTION, 0), 2);
        due("taken again", x.open(3, INSERTION, 0), 3);
        allClosed(x, 1, 3);
        dueFree("two", x, 6, 3, 2);
        allClosed(x, 2);
        dueFree("one on either side", x, 9, 9, 1);
        allClosed(x, 0);
        dueFree("the arena's first words", x, 12, 12, 1);
        allClosed(x, 4);
        dueFree("the arena's last words", x, 15, 15, 1);
    }

    private static void cellsAndBufferOfOneJobGrowTogether() {
        for (int way : new int[] {MERGE, QUICK}) {
            SortKernel x = new SortKernel(60, 2, 1);
            x.open(5, way, 0);
            x.open(1, INSERTION, 0);
            allClosed(x, 0);
            int hole = way == MERGE ? 10 : 29;
            dueFree("cells and buffer", x, 59, Math.max(hole, 59 - hole), 2);
            due("the hole", x.open(hole, INSERTION, 0), 0);
            dueBlocks("the hole", x, 0, 0, -1);
        }
    }

    private static void wordsStayButForWhatIsTold() {
        SortKernel x = used(12, 3, 1);
        x.open(4, INSERTION, 0);
        dueWords("behind those that are taken", x, 0, 0, 0, 0, 0, 5, 6, 7, 8, 9, 10, 11, 12);
        x.put(0, 3, 99);
        x.open(3, MERGE, 0);
        dueWords("cells 0, the buffer stays", x, 3, 99, 0, 0, 0, 8, 9, 10, 11, 12);
        allClosed(x, 0, 1);
        dueWords("given back", x, 3, 99, 0, 0, 0, 8, 9, 10, 11, 12);
    }

    private static void mergeTakesAsManyMore() {
        SortKernel x = new SortKernel(8, 2, 1);
        due("5 and 5 of 8", x.open(5, MERGE, 0), SortKernel.NOROOM);
        due("4 and 4 of 8", x.open(4, MERGE, 0), 0);
        dueBlocks("cells, then the buffer", x, 0, 0, 4);
        dueFree("full", x, 0, 0, 0);
        SortKernel y = new SortKernel(1999, 2, 1);
        due("1000 and 1000 of 1999", y.open(1000, MERGE, 0), SortKernel.NOROOM);
        due("999 and 999 of 1999", y.open(999, MERGE, 0), 0);
        SortKernel z = new SortKernel(2000, 2, 1);
        due("1000 and 1000 of 2000", z.open(1000, MERGE, 0), 0);
        dueBlocks("cells, then the buffer", z, 0, 0, 1000);
        SortKernel one = new SortKernel(8, 2, 1);
        one.open(1, MERGE, 0);
        dueBlocks("one number has a buffer too", one, 0, 0, 1);
    }

    private static void quickTakes24More() {
        SortKernel x = new SortKernel(31, 2, 1);
        due("8 and 24 of 31", x.open(8, QUICK, 0), SortKernel.NOROOM);
        due("7 and 24 of 31", x.open(7, QUICK, 0), 0);
        dueBlocks("cells, then the buffer", x, 0, 0, 7);
        dueFree("full", x, 0, 0, 0);
        SortKernel y = new SortKernel(1024, 2, 1);
        due("1000 and 24 of 1024", y.open(1000, QUICK, 0), 0);
        dueBlocks("cells, then the buffer", y, 0, 0, 1000);
        SortKernel z = new SortKernel(1023, 2, 1);
        due("1000 and 24 of 1023", z.open(1000, QUICK, 0), SortKernel.NOROOM);
    }

    private static void othersHaveNoBuffer() {
        for (int way : new int[] {INSERTION, HEAP, SHELL}) {
            SortKernel x = new SortKernel(8, 1, 1);
            due("all words", x.open(8, way, 0), 0);
            dueBlocks("no buffer", x, 0, 0, -1);
        }
    }

    private static void withoutNumbersNothingIsTaken() {
        SortKernel x = new SortKernel(8, 8, 1);
        x.open(8, INSERTION, 0);
        for (int way = INSERTION; way <= SHELL; way++) {
            due("way " + way + " in a full arena", x.open(0, way, 0), 1 + way);
            dueBlocks("none", x, 1 + way, -1, -1);
        }
        due("a QUICK one needs its buffer", x.open(0, QUICK, 0), SortKernel.NOROOM);
        allClosed(x, 1, 2, 3, 4);
        dueFree("nothing to give back", x, 0, 0, 0);
        dueBlocks("the other one's", x, 0, 0, -1);
        SortKernel y = new SortKernel(24, 2, 1);
        due("24 are just enough", y.open(0, QUICK, 0), 0);
        dueBlocks("no cells, but a buffer", y, 0, -1, 0);
        due("23 are not", new SortKernel(23, 2, 1).open(0, QUICK, 0), SortKernel.NOROOM);
    }

    private static void firstGivenBackIfSecondCannotBeHad() {
        SortKernel x = used(40, 4, 1);
        opened(x, INSERTION, 0, upTo(10));
        x.open(1, INSERTION, 0);
        allClosed(x, 0);
        dueFree("10 words, and 29", x, 39, 29, 2);
        due("30 cells can't be had", x.open(30, QUICK, 0), SortKernel.NOROOM);
        due("29 cells, no buffer behind", x.open(29, QUICK, 0), SortKernel.NOROOM);
        dueFree("a whole hole given back", x, 39, 29, 2);
        due("15 cells, no 15 behind", x.open(15, MERGE, 0), SortKernel.NOROOM);
        dueFree("a part of one given back", x, 39, 29, 2);
        due("the least number is free too", x.count(4), 1);
        dueWords("not even made 0", x, 0, upTo(10));
        dueWords("not even made 0", x, 11, 12, 13, 14);
        due("14 and 14 can be had", x.open(14, MERGE, 0), 0);
        dueBlocks("behind", x, 0, 11, 25);
        dueFree("left", x, 11, 10, 2);
    }

    private static void takenCellsBecomeZero() {
        for (int way = INSERTION; way <= QUICK; way++) {
            SortKernel x = used(40, 2, 1);
            x.open(5, way, 0);
            dueWords("way " + way + " cells", x, 0, 0, 0, 0, 0, 0);
            dueWords("way " + way + " buffer, or words behind", x, 5, 6, 7, 8, 9, 10, 11, 12);
            dueWords("way " + way + " last word", x, 39, 40);
        }
        SortKernel all = used(8, 2, 1);
        all.open(8, HEAP, 0);
        dueWords("a full arena", all, 0, 0, 0, 0, 0, 0, 0, 0, 0);
    }

    private static void bufferStaysAsItIs() {
        SortKernel x = used(8, 2, 1);
        x.open(4, MERGE, 0);
        dueWords("MERGE", x, 0, 0, 0, 0, 0, 5, 6, 7, 8);
        SortKernel y = used(24, 2, 1);
        y.open(0, QUICK, 0);
        dueWords("QUICK", y, 0, upTo(24));
        y.submit(0);
        y.tick();
        dueWords("also when it sorts nothing", y, 0, upTo(24));
    }

    private static void statesHaveTheirNumbers() {
        SortKernel x = new SortKernel(8, 2, 1);
        due("none", x.state(0), SortKernel.BADJOB);
        opened(x, INSERTION, 0, 2, 1);
        due("OPEN", x.state(0), OPEN);
        x.submit(0);
        due("READY", x.state(0), READY);
        x.tick();
        due("DONE", x.state(0), DONE);
        submitted(x, INSERTION, 0, 2, 1);
        x.cancel(1);
        due("CANCELLED", x.state(1), CANCELLED);
    }

    // Terms 2: SORTING

    /** The first row is what submit() leaves, each further one what a COMPARISON leaves. */
    private static void dueSteps(int way, int[] numbers, int[][] steps) {
        SortKernel x = new SortKernel(60, 2, 1);
        submitted(x, way, 0, numbers);
        for (int s = 0; s < steps.length; s++) {
            String when = "way " + way + " of " + Arrays.toString(numbers) + " after " + s;
            dueWords(when, x, 0, steps[s]);
            due(when + ": comparisons", x.job(0, 3), s);
            if (s + 1 < steps.length) {
                due(when + ": READY", x.state(0), READY);
                due(when + ": tick", x.tick(), 0);
            }
        }
        // A JOB that never had a COMPARISON still waits for its turn.
        if (steps.length == 1) {
            due("READY", x.state(0), READY);
            due("tick", x.tick(), 0);
            dueWords("a turn without comparisons", x, 0, steps[0]);
        }
        due("way " + way + " of " + Arrays.toString(numbers) + " DONE", x.state(0), DONE);
        due("comparisons", x.job(0, 3), steps.length - 1);
        due("none is READY", x.count(5), 0);
    }

    private static void noNumbersHaveNoComparison() {
        for (int way = INSERTION; way <= QUICK; way++) {
            dueSteps(way, new int[0], new int[][] {{0, 0, 0}});
        }
    }

    private static void oneNumberHasNoComparison() {
        for (int way = INSERTION; way <= QUICK; way++) {
            dueSteps(way, new int[] {MIN}, new int[][] {{MIN, 0, 0}});
        }
    }

    private static void twoNumbersHaveOneComparison() {
        for (int way : new int[] {INSERTION, HEAP, SHELL}) {
            dueSteps(way, new int[] {1, 2}, new int[][] {{1, 2, 0}, {1, 2, 0}});
            dueSteps(way, new int[] {2, 1}, new int[][] {{2, 1, 0}, {1, 2, 0}});
            dueSteps(way, new int[] {7, 7}, new int[][] {{7, 7, 0}, {7, 7, 0}});
        }
        dueSteps(MERGE, new int[] {1, 2}, new int[][] {{1, 2, 0, 0}, {1, 2, 1, 2}});
        dueSteps(MERGE, new int[] {2, 1}, new int[][] {{2, 1, 0, 0}, {1, 2, 1, 2}});
        dueSteps(QUICK, new int[] {1, 2}, new int[][] {{2, 1, 0, 0}, {1, 2, 0, 0}});
        dueSteps(QUICK, new int[] {2, 1}, new int[][] {{1, 2, 0, 0}, {1, 2, 0, 0}});
    }

    private static void numbersHaveASign() {
        int[] numbers = {MAX, 0, MIN, -1, 1, MAX, MIN, -2, MAX - 1, MIN + 1};
        int[] sorted = numbers.clone();
        Arrays.sort(sorted);
        for (int way = INSERTION; way <= QUICK; way++) {
            SortKernel x = new SortKernel(60, 2, 200);
            submitted(x, way, 0, numbers);
            due("way " + way + ": run", x.run(9), 1);
            for (int i = 0; i < sorted.length; i++) {
                due("way " + way + ": get(0, " + i + ")", x.get(0, i), sorted[i]);
            }
            dueSteps(way, new int[] {MIN}, new int[][] {{MIN}});
        }
        dueSteps(INSERTION, new int[] {MIN, MAX}, new int[][] {{MIN, MAX}, {MIN, MAX}});
        dueSteps(SHELL, new int[] {MAX, MIN}, new int[][] {{MAX, MIN}, {MIN, MAX}});
        dueSteps(HEAP, new int[] {MAX, MIN}, new int[][] {{MAX, MIN}, {MIN, MAX}});
        dueSteps(MERGE, new int[] {MAX, MIN}, new int[][] {{MAX, MIN}, {MIN, MAX, MIN, MAX}});
        dueSteps(QUICK, new int[] {MAX, MIN}, new int[][] {{MIN, MAX}, {MIN, MAX}});
    }

    private static void submitDoesWhatIsAhead() {
        dueSteps(QUICK, new int[] {1, 2, 3}, new int[][] {{1, 3, 2, 0, 0}, {1, 3, 2, 0, 0}, {1, 2, 3, 0, 0}});
        SortKernel x = new SortKernel(60, 2, 200);
        opened(x, QUICK, 0, 4, 3, 2, 1);
        dueWords("not ahead of submit()", x, 0, 4, 3, 2, 1);
        x.submit(0);
        dueWords("a[p] <-> a[h]", x, 0, 4, 1, 2, 3);
        for (int way = INSERTION; way <= SHELL; way++) {
            SortKernel y = new SortKernel(60, 2, 200);
            submitted(y, way, 0, 4, 3, 2, 1);
            dueWords("way " + way + ": nothing ahead", y, 0, 4, 3, 2, 1, 0, 0, 0, 0);
        }
    }

    /** Like numbers are neither > nor <, which shows in the COMPARISONS, and in HEAP's places. */
    private static void likeNumbersAreNeitherAboveNorBelow() {
        dueSteps(INSERTION, new int[] {2, 2, 1}, new int[][] {{2, 2, 1}, {2, 2, 1}, {2, 1, 2}, {1, 2, 2}});
        dueSteps(HEAP, new int[] {1, 2, 2, 0}, new int[][] {
            {1, 2, 2, 0}, {1, 2, 2, 0}, {1, 2, 2, 0}, {2, 1, 2, 0},
            {0, 1, 2, 2}, {0, 1, 2, 2}, {0, 1, 2, 2}, {0, 1, 2, 2}});
        int[] comparisonsOf4 = {3, 6, 4, 3, 6};
        for (int way = INSERTION; way <= QUICK; way++) {
            SortKernel x = new SortKernel(60, 2, 200);
            submitted(x, way, 0, 7, 7, 7, 7);
            x.run(9);
            due("way " + way + ": comparisons", x.job(0, 3), comparisonsOf4[way]);
        }
        SortKernel x = new SortKernel(60, 2, 200);
        submitted(x, SHELL, 0, 7, 7, 7, 7, 7);
        x.run(9);
        due("SHELL of 5: comparisons", x.job(0, 3), 5);
    }

    private static void aJobSortsItsOwnWordsOnly() {
        int[][] rows = {{}, {5}, {1, 2}, {2, 1}, {3, 2, 1}, {1, 2, 3, 4}, {4, 3, 1, 2}, {9, 8, 7, 6, 5, 4, 3}};
        for (int way = INSERTION; way <= QUICK; way++) {
            for (int[] row : rows) {
                int buffer = way == MERGE ? row.length : way == QUICK ? 24 : 0;
                SortKernel x = new SortKernel(8 + row.length + buffer + 2, 3, 1);
                opened(x, INSERTION, 0, 1, 2, 3, 4, 5, 6, 7, 50);
                x.open(row.length, way, 0);
                opened(x, INSERTION, 0, -50, 60);
                for (int i = 0; i < row.length; i++) {
                    x.put(1, i, row[i]);
                }
                x.submit(1);
                x.run(3000);
                dueWords("way " + way + ": ahead", x, 6, 7, 50);
                dueWords("way " + way + ": behind", x, 8 + row.length + buffer, -50, 60);
            }
        }
    }

    private static void aJobSortsAWholeArena() {
        for (int way = INSERTION; way <= QUICK; way++) {
            int n = way == MERGE ? 4 : 8;
            for (int kind = 0; kind < 4; kind++) {
                SortKernel x = new SortKernel(way == QUICK ? 32 : 8, 1, 1);
                x.open(n, way, 0);
                for (int i = 0; i < n; i++) {
                    x.put(0, i, 1 + (i ^ (kind * (n - 1) / 3)));
                }
                dueFree("way " + way, x, 0, 0, 0);
                x.submit(0);
                x.run(3000);
                dueWords("way " + way, x, 0, upTo(n));
            }
        }
        SortKernel x = new SortKernel(8, 1, 1);
        submitted(x, MERGE, 0, 4, 3, 1, 2);
        x.run(2);
        dueWords("to the last word of the buffer", x, 4, 3, 4, 1, 2);
    }

    private static void insertionGoesOnWhileJIsAboveZero() {
        dueSteps(INSERTION, new int[] {2, 3, 1}, new int[][] {{2, 3, 1}, {2, 3, 1}, {2, 1, 3}, {1, 2, 3}});
        dueSteps(INSERTION, new int[] {7, 7, 7}, new int[][] {{7, 7, 7}, {7, 7, 7}, {7, 7, 7}});
        SortKernel x = new SortKernel(60, 2, 1);
        opened(x, INSERTION, 0, 100, 1);
        opened(x, INSERTION, 0, 50, 2);
        x.submit(1);
        due("run", x.run(9), 1);
        dueWords("not to the word ahead of the first cell", x, 0, 100, 1, 2, 50);
    }

    private static void heapSinksFromTheLastThatHasChildren() {
        dueSteps(HEAP, new int[] {1, 2, 3}, new int[][] {
            {1, 2, 3}, {1, 2, 3}, {1, 2, 3}, {1, 2, 3}});
        dueSteps(HEAP, new int[] {1, 2, 3, 4}, new int[][] {
            {1, 2, 3, 4}, {1, 4, 3, 2}, {1, 4, 3, 2}, {4, 1, 3, 2},
            {1, 2, 3, 4}, {1, 2, 3, 4}, {1, 2, 3, 4}, {1, 2, 3, 4}});
        dueSteps(HEAP, new int[] {1, 2, 3, 4, 5}, new int[][] {
            {1, 2, 3, 4, 5}, {1, 2, 3, 4, 5}, {1, 5, 3, 4, 2}, {1, 5, 3, 4, 2}, {5, 1, 3, 4, 2},
            {5, 1, 3, 4, 2}, {2, 4, 3, 1, 5}, {2, 4, 3, 1, 5}, {4, 2, 3, 1, 5}, {1, 2, 3, 4, 5},
            {1, 2, 3, 4, 5}, {1, 2, 3, 4, 5}, {1, 2, 3, 4, 5}});
    }

    /** Another JOB's number right behind the heap must never count as a child. */
    private static void heapEndsAtE() {
        for (int n = 2; n <= 9; n++) {
            SortKernel x = new SortKernel(60, 2, 200);
            x.open(n, HEAP, 0);
            opened(x, INSERTION, 0, MAX, MAX);
            for (int i = 0; i < n; i++) {
                x.put(0, i, n - i);
            }
            x.submit(0);
            x.run(9);
            dueWords("sorted", x, 0, upTo(n));
            dueWords("behind", x, n, MAX, MAX);
        }
    }

    private static void mergeOfRowsThatTheEndCutsShort() {
        dueSteps(MERGE, new int[] {3, 2, 1}, new int[][] {
            {3, 2, 1, 0, 0, 0}, {3, 2, 1, 2, 3, 1}, {1, 2, 3, 2, 3, 1}});
        dueSteps(MERGE, new int[] {5, 4, 3, 2, 1}, new int[][] {
            {5, 4, 3, 2, 1, 0, 0, 0, 0, 0}, {5, 4, 3, 2, 1, 4, 5, 0, 0, 0}, {5, 4, 3, 2, 1, 4, 5, 2, 3, 1},
            {2, 4, 3, 2, 1, 4, 5, 2, 3, 1}, {2, 3, 4, 5, 1, 4, 5, 2, 3, 1}, {1, 2, 3, 4, 5, 1, 2, 3, 4, 5}});
        SortKernel x = new SortKernel(60, 2, 200);
        submitted(x, MERGE, 0, 3, 2, 1);
        opened(x, INSERTION, 0, 8, 9);
        x.run(9);
        dueWords("nothing behind the buffer", x, 6, 8, 9);
    }

    private static void mergeTakesTheFirstOfLikeOnes() {
        dueSteps(MERGE, new int[] {1, 2, 2, 3}, new int[][] {
            {1, 2, 2, 3, 0, 0, 0, 0}, {1, 2, 2, 3, 1, 2, 0, 0}, {1, 2, 2, 3, 1, 2, 2, 3},
            {1, 2, 2, 3, 1, 2, 2, 3}, {1, 2, 2, 3, 1, 2, 2, 3}});
        SortKernel x = new SortKernel(60, 2, 200);
        submitted(x, MERGE, 0, 5, 5, 5, 5, 5, 5, 5, 5);
        x.run(9);
        due("4, 4 and 4 comparisons, as the first row always ends first", x.job(0, 3), 12);
    }

    private static void mergeEndsInTheCells() {
        dueSteps(MERGE, new int[] {2, 1}, new int[][] {{2, 1, 0, 0}, {1, 2, 1, 2}});
        dueSteps(MERGE, new int[] {2, 1, 4, 3}, new int[][] {
            {2, 1, 4, 3, 0, 0, 0, 0}, {2, 1, 4, 3, 1, 2, 0, 0}, {2, 1, 4, 3, 1, 2, 3, 4},
            {1, 1, 4, 3, 1, 2, 3, 4}, {1, 2, 3, 4, 1, 2, 3, 4}});
        for (int n : new int[] {2, 3, 4, 5, 8, 9, 16, 17, 32, 33}) {
            SortKernel x = new SortKernel(200, 2, 200);
            x.open(n, MERGE, 0);
            for (int i = 0; i < n; i++) {
                x.put(0, i, n - i);
            }
            x.submit(0);
            x.run(9);
            dueWords(n + " numbers", x, 0, upTo(n));
        }
    }

    /** Only the first CELL is above 0, so that the first COMPARISON moves it g CELLS up. */
    private static void shellBeginsWithTheGreatestBelowN() {
        int[][] gaps = {
            {2, 1}, {3, 1}, {4, 1}, {5, 4}, {13, 4}, {14, 13}, {40, 13}, {41, 40}, {121, 40}, {122, 121},
            {364, 121}, {365, 364}, {1000, 364}};
        for (int[] g : gaps) {
            SortKernel x = new SortKernel(1000, 2, 1);
            x.open(g[0], SHELL, 0);
            x.put(0, 0, 1);
            x.submit(0);
            due("of " + g[0] + ": tick", x.tick(), 0);
            due("of " + g[0] + ": get(0, 0)", x.get(0, 0), 0);
            due("of " + g[0] + ": get(0, " + g[1] + ")", x.get(0, g[1]), 1);
        }
    }

    private static void shellGoesOnTillGIsZero() {
        dueSteps(SHELL, new int[] {5, 4, 3, 2}, new int[][] {
            {5, 4, 3, 2}, {4, 5, 3, 2}, {4, 3, 5, 2}, {3, 4, 5, 2}, {3, 4, 2, 5}, {3, 2, 4, 5}, {2, 3, 4, 5}});
        dueSteps(SHELL, new int[] {5, 4, 3, 2, 1}, new int[][] {
            {5, 4, 3, 2, 1}, {1, 4, 3, 2, 5}, {1, 4, 3, 2, 5}, {1, 3, 4, 2, 5}, {1, 3, 4, 2, 5},
            {1, 3, 2, 4, 5}, {1, 2, 3, 4, 5}, {1, 2, 3, 4, 5}, {1, 2, 3, 4, 5}});
        // Numbers in order have one COMPARISON for each i of each g: 1000 - g for 364 .. 1.
        SortKernel x = new SortKernel(1000, 2, 200);
        x.open(1000, SHELL, 0);
        x.submit(0);
        x.run(3000);
        due("comparisons", x.job(0, 3), 6000 - 364 - 121 - 40 - 13 - 4 - 1);
    }

    private static void quickPutsTheSecondOfLikeRanges() {
        dueSteps(QUICK, new int[] {1, 2, 3, 4, 5}, new int[][] {
            {1, 2, 5, 4, 3, 0, 0, 0}, {1, 2, 5, 4, 3, 0, 0, 0}, {1, 2, 5, 4, 3, 0, 0, 0},
            {1, 2, 5, 4, 3, 0, 0, 0}, {2, 1, 3, 4, 5, 3, 4, 0}, {1, 2, 3, 5, 4, 3, 4, 0},
            {1, 2, 3, 4, 5, 3, 4, 0}});
    }

    private static void quickPutsTheRangeThatHasMore() {
        dueSteps(QUICK, new int[] {1, 2, 4, 3, 5, 6}, new int[][] {
            {1, 2, 6, 3, 5, 4, 0, 0}, {1, 2, 6, 3, 5, 4, 0, 0}, {1, 2, 6, 3, 5, 4, 0, 0},
            {1, 2, 6, 3, 5, 4, 0, 0}, {1, 2, 3, 6, 5, 4, 0, 0}, {1, 2, 3, 4, 6, 5, 0, 2},
            {1, 3, 2, 4, 5, 6, 0, 2}, {1, 3, 2, 4, 5, 6, 0, 2}, {1, 2, 3, 4, 5, 6, 0, 2}});
        dueSteps(QUICK, new int[] {3, 1, 2, 0}, new int[][] {
            {3, 0, 2, 1, 0, 0}, {3, 0, 2, 1, 0, 0}, {0, 3, 2, 1, 0, 0}, {0, 1, 3, 2, 2, 3}, {0, 1, 2, 3, 2, 3}});
    }

    private static void quickPutsNoRangeBelowTwo() {
        SortKernel x = used(60, 2, 1);
        submitted(x, QUICK, 0, 1, 2, 3);
        x.run(9);
        dueWords("ranges of one on either side", x, 0, 1, 2, 3, 4, 5, 6);
        SortKernel y = used(60, 2, 1);
        submitted(y, QUICK, 0, 1, 2);
        y.run(9);
        dueWords("ranges of none and one", y, 0, 1, 2, 3, 4, 5);
    }

    private static void quickTakesAnOnlyRangeRightBack() {
        dueSteps(QUICK, new int[] {2, 3, 1}, new int[][] {
            {2, 1, 3, 0, 0, 0}, {2, 1, 3, 0, 0, 0}, {1, 2, 3, 0, 1, 0}, {1, 2, 3, 0, 1, 0}});
        dueSteps(QUICK, new int[] {4, 4, 4, 4}, new int[][] {
            {4, 4, 4, 4, 0, 0, 0}, {4, 4, 4, 4, 0, 0, 0}, {4, 4, 4, 4, 0, 0, 0}, {4, 4, 4, 4, 1, 3, 0},
            {4, 4, 4, 4, 1, 3, 0}, {4, 4, 4, 4, 2, 3, 0}, {4, 4, 4, 4, 2, 3, 0}});
    }

    /** Numbers in order halve each range, which puts the most ranges to the BUFFER at one time. */
    private static void quickTakesTheOnePutLatest() {
        SortKernel x = new SortKernel(400, 2, 1);
        submitted(x, QUICK, 0, upTo(255));
        x.run(254 + 126 + 62 + 30 + 14 + 6);
        dueWords("six ranges wait", x, 255, 128, 254, 64, 126, 32, 62, 16, 30, 8, 14, 4, 6, 0, 0);
        x.run(2);
        dueWords("the latest one is in hand; words stay", x, 255, 128, 254, 64, 126, 32, 62, 16, 30, 8, 14, 4, 6, 0);
        due("a[p] <-> a[h] of it", x.get(0, 6), 6);
        x.run(2 + 6);
        dueWords("the next one's second half in its place", x, 255, 128, 254, 64, 126, 32, 62, 16, 30, 12, 14, 4, 6, 0);
        x.run(3000);
        due("DONE", x.state(0), DONE);
        dueWords("sorted", x, 0, upTo(100));
    }

    private static void quickPutsPlacesOfItsCells() {
        SortKernel x = new SortKernel(60, 3, 1);
        x.open(10, INSERTION, 0);
        submitted(x, QUICK, 0, 1, 2, 3, 4, 5);
        x.run(4);
        dueWords("3 to 4, not 13 to 14, nor the numbers there", x, 15, 3, 4, 0);
        x.close(0);
        x.pack();
        dueWords("moved as they are", x, 5, 3, 4, 0);
        x.run(2);
        dueWords("3 to 4 is in hand", x, 0, 1, 2, 3, 4, 5);
        due("DONE", x.state(1), DONE);
    }

    private static void quickHasRoomForAllRanges() {
        SortKernel x = new SortKernel(1030, 3, 200);
        x.open(1000, QUICK, 0);
        opened(x, INSERTION, 0, 11, 12, 13);
        for (int i = 0; i < 400; i++) {
            x.put(0, i, i * 7 % 400 - 500);
        }
        x.submit(0);
        x.run(3000);
        due("DONE", x.state(0), DONE);
        for (int i = 0; i < 40; i++) {
            due("get(0, " + 10 * i + ")", x.get(0, 10 * i), 10 * i - 500);
        }
        dueWords("nothing behind the buffer", x, 1024, 11, 12, 13);
    }

    // Terms 3: TURNS

    private static void aQueueForEachPriority() {
        SortKernel x = new SortKernel(60, 8, 1);
        for (int priority : new int[] {1, 3, 0, 2, 3, 1, 0, 2}) {
            submitted(x, INSERTION, priority, 1, 2, 3);
        }
        for (int job = 0; job < 8; job++) {
            due("ahead of " + job, x.job(job, 6), job < 4 ? 0 : 1);
        }
        dueTurns(x, 1, 4, 1, 4, 3, 7, 3, 7, 0, 5, 0, 5, 2, 6, 2, 6, -1);
    }

    private static void aHigherPriorityTakesTheNextTurn() {
        SortKernel x = new SortKernel(60, 8, 1);
        submitted(x, INSERTION, 0, 1, 2, 3);
        dueTurns(x, 0);
        submitted(x, INSERTION, 1, 1, 2);
        submitted(x, INSERTION, 3, 1, 2);
        dueTurns(x, 2, 1, 0, -1);
    }

    private static void theClockIsOneMore() {
        SortKernel x = new SortKernel(60, 8, 200);
        due("at first", x.count(3), 0);
        dueTurns(x, -1);
        due("none is READY", x.count(3), 1);
        submitted(x, INSERTION, 0, 3, 2, 1);
        dueTurns(x, 0);
        due("one for many comparisons", x.count(3), 2);
        submitted(x, INSERTION, 0);
        dueTurns(x, 1);
        due("one for no comparison", x.count(3), 3);
    }

    /** Numbers in order have one COMPARISON less than there are numbers. */
    private static void dueComparisons(int quantum, int n, int... made) {
        SortKernel x = new SortKernel(1000, 2, quantum);
        x.open(n, INSERTION, 0);
        x.submit(0);
        for (int i = 0; i < made.length; i++) {
            String when = "quantum " + quantum + " of " + n + " after " + i;
            due(when + ": READY", x.state(0), READY);
            due(when + ": tick", x.tick(), 0);
            due(when + ": comparisons", x.job(0, 3), made[i]);
            due(when + ": comparisons of all", x.count(6), made[i]);
        }
        due("quantum " + quantum + " of " + n + ": DONE", x.state(0), DONE);
        due("quantum " + quantum + " of " + n + ": none is READY", x.tick(), -1);
    }

    private static void quantumComparisonsOrThoseLeft() {
        dueComparisons(1, 2, 1);
        dueComparisons(1, 3, 1, 2);
        dueComparisons(3, 3, 2);
        dueComparisons(3, 4, 3);
        dueComparisons(3, 5, 3, 4);
        dueComparisons(3, 7, 3, 6);
        dueComparisons(200, 200, 199);
        dueComparisons(200, 201, 200);
        dueComparisons(200, 202, 200, 201);
        dueComparisons(200, 1000, 200, 400, 600, 800, 999);
        dueComparisons(5, 0, 0);
        dueComparisons(5, 1, 0);
    }

    private static void doneLeavesElseToTheEnd() {
        SortKernel x = new SortKernel(60, 8, 1);
        submitted(x, INSERTION, 0, 1, 2, 3);
        submitted(x, INSERTION, 0, 1, 2);
        submitted(x, INSERTION, 0, 1, 2, 3, 4);
        due("three", x.count(5), 3);
        dueTurns(x, 0);
        due("at the end", x.job(0, 6), 2);
        due("first now", x.job(1, 6), 0);
        due("second now", x.job(2, 6), 1);
        dueTurns(x, 1);
        due("DONE is in no queue", x.job(1, 6), -1);
        due("two", x.count(5), 2);
        dueTurns(x, 2, 0, 2);
        due("alone: its end is its first place", x.job(2, 6), 0);
        dueTurns(x, 2, -1);
        due("empty", x.count(5), 0);
    }

    private static void aFullQueueGoesRound() {
        SortKernel x = new SortKernel(100, 24, 1);
        for (int job = 0; job < 24; job++) {
            submitted(x, INSERTION, 2, 1, 2, 3);
        }
        due("the last one", x.job(23, 6), 23);
        for (int turn = 0; turn < 48; turn++) {
            due("turn " + turn, x.tick(), turn % 24);
        }
        due("none", x.tick(), -1);
    }

    /** More JOBS come and go than the QUEUE has at one time. */
    private static void aQueueIsUsedAgainAndAgain() {
        SortKernel x = new SortKernel(100, 3, 1);
        x.open(90, INSERTION, 1);
        x.submit(0);
        for (int round = 0; round < 60; round++) {
            due("open", x.open(1, INSERTION, 1), 1);
            due("submit", x.submit(1), SortKernel.OK);
            due("ahead", x.job(1, 6), 1);
            due("the long one", x.tick(), 0);
            due("the short one", x.tick(), 1);
            due("close", x.close(1), SortKernel.OK);
        }
        due("comparisons", x.job(0, 3), 60);
        due("run", x.run(3000), 29);
    }

    // Terms 4: PACKING

    private static void packOfNothing() {
        SortKernel x = used(8, 3, 1);
        due("no block", x.pack(), 0);
        dueWords("words stay", x, 0, upTo(8));
        dueFree("free", x, 8, 8, 1);
        x.open(0, INSERTION, 0);
        x.open(0, MERGE, 0);
        due("jobs without blocks", x.pack(), 0);
        dueBlocks("none", x, 0, -1, -1);
        dueBlocks("none", x, 1, -1, -1);
    }

    private static void packWithoutAGap() {
        SortKernel x = rows(9, 4, 3);
        due("free words only behind", x.pack(), 0);
        dueFree("free", x, 2, 2, 1);
        SortKernel y = rows(9, 4, 5);
        due("full", y.pack(), 0);
        dueBlocks("where it was", y, 1, 4, -1);
        dueFree("free", y, 0, 0, 0);
    }

    private static void packMovesInTheirOrder() {
        SortKernel x = new SortKernel(16, 24, 1);
        opened(x, INSERTION, 0, 1);
        opened(x, INSERTION, 0, 2, 3);
        opened(x, INSERTION, 0, 4, 5, 6);
        opened(x, INSERTION, 0, 7);
        opened(x, INSERTION, 0, 8, 9, 10, 11);
        opened(x, INSERTION, 0, 12, 13, 14, 15, 16);
        allClosed(x, 1, 3);
        due("the first one stays, three are moved", x.pack(), 12);
        dueBlocks("stays", x, 0, 0, -1);
        dueBlocks("over its own words", x, 2, 1, -1);
        dueBlocks("next", x, 4, 4, -1);
        dueBlocks("from the last word", x, 5, 8, -1);
        dueWords("moved", x, 0, 1, 4, 5, 6, 8, 9, 10, 11, 12, 13, 14, 15, 16);
        dueWords("behind them as they were", x, 13, 14, 15, 16);
        dueFree("no free word ahead", x, 3, 3, 1);
        due("again", x.pack(), 0);
    }

    private static void packOrdersByWordsNotByJobs() {
        SortKernel x = new SortKernel(40, 24, 1);
        opened(x, INSERTION, 0, 1, 2);
        opened(x, INSERTION, 0, 3, 4, 5);
        opened(x, INSERTION, 0, 6);
        allClosed(x, 0, 1);
        opened(x, INSERTION, 0, 10, 11, 12, 13, 14, 15);
        opened(x, INSERTION, 0, 16);
        due("job 1 at 0, job 2 at 5, job 0 at 6", x.pack(), 7);
        dueBlocks("last by its words", x, 0, 2, -1);
        dueBlocks("first by its words", x, 1, 0, -1);
        dueBlocks("second by its words", x, 2, 1, -1);
        dueWords("moved", x, 0, 16, 6, 10, 11, 12, 13, 14, 15);
    }

    private static void packMovesABufferToo() {
        SortKernel x = used(40, 24, 1);
        x.open(3, INSERTION, 0);
        x.open(2, INSERTION, 0);
        opened(x, MERGE, 0, 50, 51, 52, 53);
        allClosed(x, 0);
        due("one behind", x.open(5, INSERTION, 0), 0);
        due("resized down over the hole", x.resize(2, 3), SortKernel.OK);
        dueBlocks("cells ahead, the buffer behind", x, 2, 0, 5);
        allClosed(x, 1);
        due("the buffer, and the one behind it", x.pack(), 8);
        dueBlocks("the buffer alone was moved", x, 2, 0, 3);
        dueWords("moved", x, 0, 50, 51, 52, 50, 51, 52);
    }

    /** All ways with the BUFFER behind the CELLS, and QUICK with the BUFFER ahead of them. */
    private static void jobsGoOnAsIfNothingHadHappened() {
        int[] numbers = {5, -3, 9, 9, 0, MIN, 7, MAX, 2, -3, 11};
        for (int way = INSERTION; way <= QUICK; way++) {
            for (int at = 0; at < 60; at++) {
                dueAsIfLeft(way, 15, numbers, at);
            }
        }
        int[] more = Arrays.copyOf(numbers, 27);
        for (int at = 0; at < 150; at++) {
            dueAsIfLeft(QUICK, 25, more, at);
        }
    }

    private static void dueAsIfLeft(int way, int hole, int[] numbers, int at) {
        String when = "way " + way + " packed after " + at;
        SortKernel packed = behindGaps(way, hole, numbers);
        SortKernel left = behindGaps(way, hole, numbers);
        packed.run(at);
        left.run(at);
        due(when + ": some were moved", packed.pack() > 0 ? 1 : 0, 1);
        for (int ticks = 0; ticks < 3; ticks++) {
            dueLike(when + " and " + ticks, packed, left, numbers.length);
            due(when + ": tick", packed.tick(), left.tick());
        }
        due(when + ": run", packed.run(3000), left.run(3000));
        dueLike(when + " at the end", packed, left, numbers.length);
    }

    /**
     * JOB 3 has 6 free WORDS ahead of a hole, which has room for its CELLS or its BUFFER, not for
     * both; other JOBS are between the two.
     */
    private static SortKernel behindGaps(int way, int hole, int[] numbers) {
        SortKernel x = new SortKernel(150, 6, 1);
        x.open(6, INSERTION, 0);
        x.open(hole, INSERTION, 0);
        x.open(8, INSERTION, 0);
        allClosed(x, 1);
        due("open", x.open(30, INSERTION, 0), 1);
        due("open", x.open(numbers.length, way, 1), 3);
        for (int i = 0; i < numbers.length; i++) {
            x.put(3, i, numbers[i]);
        }
        allClosed(x, 0);
        x.submit(3);
        x.submit(1);
        return x;
    }

    private static void dueLike(String when, SortKernel packed, SortKernel left, int n) {
        for (int i = 0; i < n; i++) {
            due(when + ": get(3, " + i + ")", packed.get(3, i), left.get(3, i));
        }
        for (int what : new int[] {0, 1, 2, 3, 6, 7, 8}) {
            due(when + ": job(3, " + what + ")", packed.job(3, what), left.job(3, what));
        }
        due(when + ": state", packed.state(3), left.state(3));
    }

    // Refusals

    /**
     * JOB 0 is OPEN, a MERGE one; 1 READY, a QUICK one under way; 2 READY, a SHELL one under way; 3
     * DONE; 4 CANCELLED; 5 OPEN, a QUICK one. No slot is free; 12 WORDS are, in three BLOCKS.
     */
    private static SortKernel everyState() {
        SortKernel x = used(90, 6, 2);
        opened(x, MERGE, 1, 4, 3, 2, 1);
        submitted(x, QUICK, 2, 5, 4, 3, 2, 1, 0);
        submitted(x, SHELL, 2, 3, 1, 2, 5, 4);
        submitted(x, HEAP, 3, 3);
        submitted(x, INSERTION, 0, 2, 1, 0);
        x.cancel(4);
        x.run(4);
        x.close(3);
        due("open", x.open(4, HEAP, 3), 3);
        x.submit(3);
        x.run(4);
        opened(x, QUICK, 0, 6, 5);
        x.resize(5, 4);
        return x;
    }

    /** Two slots are free, but only 2 WORDS; JOBS 0 (MERGE), 1 (QUICK) and 3 (INSERTION) are OPEN. */
    private static SortKernel almostFull() {
        SortKernel x = used(40, 5, 2);
        opened(x, MERGE, 1, 4, 3, 2, 1);
        opened(x, QUICK, 1, 7, 6, 5);
        opened(x, INSERTION, 1, 1, 2);
        opened(x, INSERTION, 1, 9, 8, 7);
        x.close(2);
        return x;
    }

    private static List<Integer> seen(SortKernel x) {
        List<Integer> answers = new ArrayList<>();
        for (int what = 0; what <= 8; what++) {
            answers.add(x.count(what));
        }
        for (int job = 0; job < 6; job++) {
            answers.add(x.state(job));
            for (int what = 0; what <= 8; what++) {
                answers.add(x.job(job, what));
            }
        }
        int words = x.count(7);
        for (int i = 0; i < words; i++) {
            answers.add(x.word(i));
        }
        return answers;
    }

    /** Of two like objects one gets the call; all that can be seen of them, now and later, is alike. */
    private static void dueRefused(boolean full, String call, ToIntFunction<SortKernel> refused, int want) {
        SortKernel x = full ? everyState() : almostFull();
        SortKernel y = full ? everyState() : almostFull();
        due(call, refused.applyAsInt(x), want);
        due(call + " changed something", seen(x).equals(seen(y)) ? 0 : 1, 0);
        for (SortKernel z : new SortKernel[] {x, y}) {
            z.submit(0);
            z.run(2);
            z.close(4);
            z.open(2, INSERTION, 3);
            z.run(3000);
        }
        due(call + " changed something for later", seen(x).equals(seen(y)) ? 0 : 1, 0);
    }

    private static void sceneIsAsTold() {
        SortKernel x = everyState();
        int[] states = {OPEN, READY, READY, DONE, CANCELLED, OPEN};
        for (int job = 0; job < 6; job++) {
            due("state(" + job + ")", x.state(job), states[job]);
        }
        due("under way", x.job(1, 3) > 0 && x.job(2, 3) > 0 ? 1 : 0, 1);
        due("full", x.open(0, INSERTION, 0), SortKernel.NOSLOT);
        SortKernel y = almostFull();
        dueFree("almost full", y, 2, 2, 1);
    }

    private static void refusedOpenChangesNothing() {
        dueRefused(true, "open(-1, 0, 0)", x -> x.open(-1, 0, 0), SortKernel.BADARG);
        dueRefused(true, "open(0, 0, 0)", x -> x.open(0, 0, 0), SortKernel.NOSLOT);
        dueRefused(false, "open(1001, 0, 0)", x -> x.open(1001, 0, 0), SortKernel.BADARG);
        dueRefused(false, "open(1, 5, 0)", x -> x.open(1, 5, 0), SortKernel.BADARG);
        dueRefused(false, "open(1, 0, 4)", x -> x.open(1, 0, 4), SortKernel.BADARG);
        dueRefused(false, "open(3, 0, 0)", x -> x.open(3, 0, 0), SortKernel.NOROOM);
        dueRefused(false, "open(2, 2, 0)", x -> x.open(2, 2, 0), SortKernel.NOROOM);
        dueRefused(false, "open(2, 4, 0)", x -> x.open(2, 4, 0), SortKernel.NOROOM);
        dueRefused(false, "open(0, 4, 0)", x -> x.open(0, 4, 0), SortKernel.NOROOM);
    }

    private static void refusedPutChangesNothing() {
        dueRefused(true, "put(6, 0, 77)", x -> x.put(6, 0, 77), SortKernel.BADJOB);
        dueRefused(true, "put(-1, 0, 77)", x -> x.put(-1, 0, 77), SortKernel.BADJOB);
        for (int job = 1; job <= 4; job++) {
            int refused = job;
            dueRefused(true, "put(" + job + ", 0, 77)", x -> x.put(refused, 0, 77), SortKernel.BADSTATE);
        }
        dueRefused(true, "put(0, 4, 77)", x -> x.put(0, 4, 77), SortKernel.BADINDEX);
        dueRefused(true, "put(0, -1, 77)", x -> x.put(0, -1, 77), SortKernel.BADINDEX);
        dueRefused(false, "put(3, -1, 77)", x -> x.put(3, -1, 77), SortKernel.BADINDEX);
    }

    private static void refusedResizeChangesNothing() {
        dueRefused(true, "resize(6, 1)", x -> x.resize(6, 1), SortKernel.BADJOB);
        for (int job = 1; job <= 4; job++) {
            int refused = job;
            dueRefused(true, "resize(" + job + ", 1)", x -> x.resize(refused, 1), SortKernel.BADSTATE);
        }
        dueRefused(true, "resize(0, -1)", x -> x.resize(0, -1), SortKernel.BADARG);
        dueRefused(true, "resize(5, 1001)", x -> x.resize(5, 1001), SortKernel.BADARG);
        dueRefused(false, "resize(0, 5)", x -> x.resize(0, 5), SortKernel.NOROOM);
        dueRefused(false, "resize(0, 9)", x -> x.resize(0, 9), SortKernel.NOROOM);
        dueRefused(false, "resize(1, 4)", x -> x.resize(1, 4), SortKernel.NOROOM);
        dueRefused(false, "resize(3, 6)", x -> x.resize(3, 6), SortKernel.NOROOM);
        dueRefused(false, "resize(3, 1000)", x -> x.resize(3, 1000), SortKernel.NOROOM);
    }

    private static void refusedSubmitChangesNothing() {
        dueRefused(true, "submit(6)", x -> x.submit(6), SortKernel.BADJOB);
        dueRefused(false, "submit(2)", x -> x.submit(2), SortKernel.BADJOB);
        for (int job = 1; job <= 4; job++) {
            int refused = job;
            dueRefused(true, "submit(" + job + ")", x -> x.submit(refused), SortKernel.BADSTATE);
        }
    }

    private static void refusedRunChangesNothing() {
        dueRefused(true, "run(-1)", x -> x.run(-1), SortKernel.BADARG);
        dueRefused(true, "run(3001)", x -> x.run(3001), SortKernel.BADARG);
    }

    private static void refusedCancelChangesNothing() {
        dueRefused(true, "cancel(-1)", x -> x.cancel(-1), SortKernel.BADJOB);
        dueRefused(true, "cancel(0)", x -> x.cancel(0), SortKernel.BADSTATE);
        dueRefused(true, "cancel(3)", x -> x.cancel(3), SortKernel.BADSTATE);
        dueRefused(true, "cancel(4)", x -> x.cancel(4), SortKernel.BADSTATE);
    }

    private static void refusedRaiseChangesNothing() {
        dueRefused(true, "raise(6, 3)", x -> x.raise(6, 3), SortKernel.BADJOB);
        dueRefused(true, "raise(0, 4)", x -> x.raise(0, 4), SortKernel.BADARG);
        dueRefused(true, "raise(1, 4)", x -> x.raise(1, 4), SortKernel.BADARG);
        dueRefused(true, "raise(1, -1)", x -> x.raise(1, -1), SortKernel.BADARG);
        dueRefused(true, "raise(3, 1)", x -> x.raise(3, 1), SortKernel.BADSTATE);
        dueRefused(true, "raise(4, 1)", x -> x.raise(4, 1), SortKernel.BADSTATE);
    }

    private static void refusedCloseChangesNothing() {
        dueRefused(true, "close(6)", x -> x.close(6), SortKernel.BADJOB);
        dueRefused(false, "close(2)", x -> x.close(2), SortKernel.BADJOB);
        dueRefused(true, "close(1)", x -> x.close(1), SortKernel.BADSTATE);
        dueRefused(true, "close(2)", x -> x.close(2), SortKernel.BADSTATE);
    }

    private static void askingChangesNothing() {
        dueRefused(true, "state(6)", x -> x.state(6), SortKernel.BADJOB);
        dueRefused(true, "get(6, 0)", x -> x.get(6, 0), 0);
        dueRefused(true, "get(0, 4)", x -> x.get(0, 4), 0);
        dueRefused(true, "word(90)", x -> x.word(90), 0);
        dueRefused(true, "job(0, 9)", x -> x.job(0, 9), -1);
        dueRefused(true, "job(6, 0)", x -> x.job(6, 0), -1);
        dueRefused(true, "count(9)", x -> x.count(9), -1);
    }

    private static void theFirstRefusalOfOpen() {
        SortKernel x = everyState();
        due("BADARG, NOSLOT and NOROOM", x.open(1001, 0, 0), SortKernel.BADARG);
        due("BADARG (way) and NOSLOT", x.open(1, 5, 0), SortKernel.BADARG);
        due("BADARG (priority) and NOSLOT", x.open(1, 0, -1), SortKernel.BADARG);
        due("NOSLOT and NOROOM", x.open(1000, 0, 0), SortKernel.NOSLOT);
        due("BADARG and NOROOM", almostFull().open(40, 5, 0), SortKernel.BADARG);
    }

    private static void theFirstRefusalOfPut() {
        SortKernel x = everyState();
        due("BADJOB and BADINDEX", x.put(6, -1, 1), SortKernel.BADJOB);
        for (int job = 1; job <= 4; job++) {
            due("BADSTATE and BADINDEX", x.put(job, -1, 1), SortKernel.BADSTATE);
            due("BADSTATE and BADINDEX", x.put(job, 1000, 1), SortKernel.BADSTATE);
        }
    }

    private static void theFirstRefusalOfResize() {
        SortKernel x = everyState();
        due("BADJOB and BADARG", x.resize(6, 1001), SortKernel.BADJOB);
        due("BADJOB and NOROOM", x.resize(-1, 1000), SortKernel.BADJOB);
        for (int job = 1; job <= 4; job++) {
            due("BADSTATE and BADARG", x.resize(job, -1), SortKernel.BADSTATE);
            due("BADSTATE and NOROOM", x.resize(job, 1000), SortKernel.BADSTATE);
        }
        due("BADARG and NOROOM", x.resize(0, 1001), SortKernel.BADARG);
        due("NOROOM", x.resize(0, 1000), SortKernel.NOROOM);
    }

    private static void theFirstRefusalOfRaise() {
        SortKernel x = everyState();
        due("BADJOB and BADARG", x.raise(6, 4), SortKernel.BADJOB);
        due("BADARG and BADSTATE", x.raise(3, 4), SortKernel.BADARG);
        due("BADARG and BADSTATE", x.raise(4, -1), SortKernel.BADARG);
    }

    private static void constants() {
        int[] constants = {SortKernel.OK, SortKernel.BADJOB, SortKernel.BADINDEX, SortKernel.BADSTATE,
            SortKernel.BADARG, SortKernel.NOSLOT, SortKernel.NOROOM};
        for (int i = 0; i < constants.length; i++) {
            due("constant " + i, constants[i], -i);
        }
    }

    private static void arenaSentences() {
        sentence("0 at first", TermEdges::wordsAreZeroAtFirst);
        sentence("32 bits each", TermEdges::wordsHave32Bits);
        sentence("free ones that touch are one", TermEdges::touchingFreeBlocksAreOne);
        sentence("the first free BLOCK (by its first WORD) that has as many gives its first n",
            TermEdges::firstFreeBlockThatHasAsManyGivesItsFirst);
        sentence("it is free, together with free ones beside it", TermEdges::givenBackTogetherWithFreeOnesBeside);
        sentence("it is free, together with free ones beside it", TermEdges::cellsAndBufferOfOneJobGrowTogether);
        sentence("WORDS stay as they are but for what is told", TermEdges::wordsStayButForWhatIsTold);
        sentence("a MERGE one n WORDS more", TermEdges::mergeTakesAsManyMore);
        sentence("a QUICK one 24", TermEdges::quickTakes24More);
        sentence("A JOB of n numbers TAKES its CELLS (n WORDS)", TermEdges::othersHaveNoBuffer);
        sentence("With n 0 it takes no CELLS, a MERGE one no BUFFER", TermEdges::withoutNumbersNothingIsTaken);
        sentence("If the second one can't be had, the first one is GIVEN back",
            TermEdges::firstGivenBackIfSecondCannotBeHad);
        sentence("CELLS that are TAKEN become 0", TermEdges::takenCellsBecomeZero);
        sentence("a BUFFER stays as it is", TermEdges::bufferStaysAsItIs);
        sentence("STATES: 0 none, 1 OPEN, 2 READY, 3 DONE, 4 CANCELLED", TermEdges::statesHaveTheirNumbers);
    }

    private static void sortingSentences() {
        sentence("Each way is a row of COMPARISONS (none for no numbers)", TermEdges::noNumbersHaveNoComparison);
        sentence("Each way is a row of COMPARISONS (none for one number)", TermEdges::oneNumberHasNoComparison);
        sentence("Each way is a row of COMPARISONS (one for two numbers)", TermEdges::twoNumbersHaveOneComparison);
        sentence("numbers with sign", TermEdges::numbersHaveASign);
        sentence("what is ahead of the first one is done by submit()", TermEdges::submitDoesWhatIsAhead);
        sentence("COMPARE .. > .., COMPARE .. < .. (like numbers)", TermEdges::likeNumbersAreNeitherAboveNorBelow);
        sentence("CELLS a[0] .. a[n - 1] (and no WORDS beside them)", TermEdges::aJobSortsItsOwnWordsOnly);
        sentence("CELLS a[0] .. a[n - 1] (the first WORD, the last WORD)", TermEdges::aJobSortsAWholeArena);
        sentence("INSERTION: as long as j is above 0", TermEdges::insertionGoesOnWhileJIsAboveZero);
        sentence("HEAP: for r from n / 2 - 1 (cut) down to 0", TermEdges::heapSinksFromTheLastThatHasChildren);
        sentence("HEAP: if c isn't below e; if c + 1 is below e", TermEdges::heapEndsAtE);
        sentence("MERGE: m the lesser of l + w and n, h of l + 2 w and n",
            TermEdges::mergeOfRowsThatTheEndCutsShort);
        sentence("MERGE: COMPARE the first one's next <= the second one's next",
            TermEdges::mergeTakesTheFirstOfLikeOnes);
        sentence("MERGE: if they are in the BUFFER, they are copied to the CELLS", TermEdges::mergeEndsInTheCells);
        sentence("SHELL: the greatest of 1, 4, 13, 40, .. that is below n",
            TermEdges::shellBeginsWithTheGreatestBelowN);
        sentence("SHELL: as long as it is above 0", TermEdges::shellGoesOnTillGIsZero);
        sentence("QUICK: of like ones the second one", TermEdges::quickPutsTheSecondOfLikeRanges);
        sentence("QUICK: the one that has more is put to the BUFFER", TermEdges::quickPutsTheRangeThatHasMore);
        sentence("QUICK: if it has two or more", TermEdges::quickPutsNoRangeBelowTwo);
        sentence("QUICK: goes on with the other one, if that has two or more",
            TermEdges::quickTakesAnOnlyRangeRightBack);
        sentence("QUICK: else with the one put latest (it is there no more; WORDS stay)",
            TermEdges::quickTakesTheOnePutLatest);
        sentence("QUICK: its first number, then its last one", TermEdges::quickPutsPlacesOfItsCells);
        sentence("QUICK: behind those that are there", TermEdges::quickHasRoomForAllRanges);
    }

    private static void turnsAndPackingSentences() {
        sentence("There is a QUEUE of READY JOBS for each priority 0 .. 3", TermEdges::aQueueForEachPriority);
        sentence("the first JOB of the highest priority's QUEUE that has some",
            TermEdges::aHigherPriorityTakesTheNextTurn);
        sentence("A TICK: the CLOCK is 1 more", TermEdges::theClockIsOneMore);
        sentence("makes QUANTUM COMPARISONS, or those that it has left, if these are fewer",
            TermEdges::quantumComparisonsOrThoseLeft);
        sentence("if it has none left, it is DONE, and leaves the QUEUE; else it goes to its end",
            TermEdges::doneLeavesElseToTheEnd);
        sentence("else it goes to its end (a full QUEUE)", TermEdges::aFullQueueGoesRound);
        sentence("else it goes to its end (a QUEUE used again)", TermEdges::aQueueIsUsedAgainAndAgain);
        sentence("all taken BLOCKS are moved down (none taken)", TermEdges::packOfNothing);
        sentence("so that no free WORD is ahead of any (none is)", TermEdges::packWithoutAGap);
        sentence("in their order; WORDS behind them stay as they were", TermEdges::packMovesInTheirOrder);
        sentence("in their order", TermEdges::packOrdersByWordsNotByJobs);
        sentence("all taken BLOCKS are moved down (a BUFFER alone)", TermEdges::packMovesABufferToo);
        sentence("Jobs go on as if nothing had happened", TermEdges::jobsGoOnAsIfNothingHadHappened);
    }

    private static void refusalSentences() {
        sentence("(the scene of the refusals)", TermEdges::sceneIsAsTold);
        sentence("What is refused changes nothing: open", TermEdges::refusedOpenChangesNothing);
        sentence("What is refused changes nothing: put", TermEdges::refusedPutChangesNothing);
        sentence("What is refused changes nothing: resize", TermEdges::refusedResizeChangesNothing);
        sentence("What is refused changes nothing: submit", TermEdges::refusedSubmitChangesNothing);
        sentence("What is refused changes nothing: run", TermEdges::refusedRunChangesNothing);
        sentence("What is refused changes nothing: cancel", TermEdges::refusedCancelChangesNothing);
        sentence("What is refused changes nothing: raise", TermEdges::refusedRaiseChangesNothing);
        sentence("What is refused changes nothing: close", TermEdges::refusedCloseChangesNothing);
        sentence("What is refused changes nothing: questions", TermEdges::askingChangesNothing);
        sentence("Of several refusals the first one listed is told: open", TermEdges::theFirstRefusalOfOpen);
        sentence("Of several refusals the first one listed is told: put", TermEdges::theFirstRefusalOfPut);
        sentence("Of several refusals the first one listed is told: resize", TermEdges::theFirstRefusalOfResize);
        sentence("Of several refusals the first one listed is told: raise", TermEdges::theFirstRefusalOfRaise);
        sentence("The constants", TermEdges::constants);
    }

    public static void main(String[] args) {
        arenaSentences();
        sortingSentences();
        turnsAndPackingSentences();
        refusalSentences();
        System.out.println(wrong == 0 ? tests + " sentences of the terms hold" : wrong + " answers are not as due");
        if (wrong != 0) {
            System.exit(1);
        }
    }
}

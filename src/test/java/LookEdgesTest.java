/**
 * The sentences of the document about covers, what is alike, shelves, clips and strokes by draws (Terms 2 and 4,
 * promises 15, 20 to 23 and 27 to 43) that name an edge: each has an object of its own here, named by its words.
 */
final class LookEdgesTest extends Script {
    private LookEdgesTest() {
        super("LookEdgesTest");
    }

    public static void main(String[] args) {
        LookEdgesTest t = new LookEdgesTest();
        t.cells();
        t.rects();
        t.would();
        t.drawn();
        t.drawnInSteps();
        t.alike();
        t.looksAndStripes();
        t.allLooks();
        t.greatest();
        t.strokes();
        t.rowsOnShelves();
        t.clips();
        t.clipsOfMany();
        t.pasteRefusals();
        t.pastes();
        t.check.end();
    }

    // ---- promises 20 to 23

    private void cells() {
        on("promise 21: what 0 .. 4, with NONE where it is UNSET");
        int[] unset = {0, NONE, NONE, NONE, 0};
        for (int what = 0; what < 5; what++) due(unset[what], "under", 0, 0, what);
        for (int what : a(-1, 5, LEAST, MOST)) due(BAD, "under", 0, 0, what);
        due(1, "ground", 0, 1);
        due(1, "lines", 1, 0, 2, 0);
        due(1, "lines", 0, 0, 3, 0);
        due(1, "paint", 0, 4, 0);
        int[] set = {4, 4, 3, 2, 3};
        for (int what = 0; what < 5; what++) due(set[what], "under", 0, 0, what);

        on("promise 22: 4 and the RANK, up to the last of 6");
        for (int k = 0; k < 6; k++) rule(k + 1, "column=" + k, k, 7, 3, 0);
        for (int k = 0; k < 6; k++) due(4 + k, "by", k, 0);
        due(0, "by", 6, 0);
        due(0, "by", 100, 0);

        on("promise 23: VOID: BAD; a VALUE is none of these");
        due(1, "value", 0, -2);
        due(BAD, "valueAt", 0);
        for (int cell : a(-1, 8, 99, 708, 800, LEAST, MOST)) due(VOID, "valueAt", cell);
        sized(1, 1);
        due(VOID, "valueAt", 1);
        due(VOID, "valueAt", 100);
    }

    // ---- covers

    private void rects() {
        on("promise 28: NONE: there are not as many; BAD ahead of it");
        due(NONE, "rect", 0, 0, 0);
        due(NONE, "rect", 0, 0, 1);
        due(1, "paint", 0, 6, 1010101);
        due(1010101, "rect", 0, 0, 0);
        due(6, "rect", 0, 0, 1);
        for (int k : a(1, 2, 255, 256, 257, MOST)) {
            due(NONE, "rect", 0, k, 0);
            due(NONE, "rect", 0, k, 1);
            due(BAD, "rect", 0, k, 2);
            due(BAD, "rect", 4, k, 0);
        }
        for (int k : a(-1, -256, LEAST)) due(BAD, "rect", 0, k, 0);
        due(NONE, "rect", 1, 0, 0);

        on("promises 27 to 29: as many RECTS as CELLs");
        sized(16, 16);
        for (int k = 0; k < 4; k++) due(1, "paint", 0, k, 1000100 * (k / 2) + 10001 * (k % 2));
        due(1, "copy", 101, 1515, 0);
        due(256, "rects", 0);
        due(0, "rect", 0, 0, 0);
        due(150015, "rect", 0, 15, 0);
        due(1000100, "rect", 0, 16, 0);
        due(15151515, "rect", 0, 255, 0);
        due(3, "rect", 0, 255, 1);
        due(NONE, "rect", 0, 256, 0);
        due(0, "lies", 0, 0);
        due(17, "lies", 101, 0);
        due(255, "lies", 1515, 0);

        on("promise 29: NONE: in no RECT of this COVER");
        due(1, "paint", 1, 0, 0);
        due(0, "lies", 0, 1);
        due(NONE, "lies", 0, 0);
        due(NONE, "lies", 1, 1);
        due(BAD, "lies", 8, 1);
        due(BAD, "lies", 0, 4);
    }

    private void would() {
        on("promise 30: behind a PAINT, in thought");
        due(1, "would", 0, 0, 0);
        due(0, "would", 0, NONE, 707);
        due(1, "paint", 0, 1, 1010606);
        due(1, "would", 0, 1, 1010606);
        due(0, "would", 0, NONE, 1010606);
        due(1, "would", 0, 2, 1010606);
        due(1, "would", 0, NONE, 1010106);
        due(2, "would", 0, NONE, 3010306);
        due(4, "would", 0, NONE, 3030303);
        due(5, "would", 0, 0, 3030303);
        due(2, "would", 0, 2, 7);
        due(1, "would", 0, 1, 707);
        due(1, "would", 2, 1, 707);
        for (int v : a(-2, 10)) due(BAD, "would", 0, v, 0);
        due(1, "count", 3);
        cover(0, 1010606);
    }

    private void drawn() {
        on("promise 31: n (0 .. 30): 0 paints nothing");
        due(1, "paint", 2, 3, 1010202);
        for (int seed : a(0, 1, -1, LEAST, MOST)) {
            due(1, "drawn", seed, 0, 2, 0);
            due(4, "drawn", seed, 0, 2, 1);
            due(0, "drawn", seed, 0, 1, 1);
        }
        for (int n : a(-1, 31, LEAST, MOST)) due(BAD, "drawn", 1, n, 2, 0);
        due(1, "count", 3);
    }

    /** Each of five numbers is of the next z, an int; rows from the less to the greater; -1 is UNSET. */
    private void drawnInSteps() {
        int[][] sizes = {{1, 1}, {3, 8}, {8, 8}, {16, 16}, {2, 16}};
        for (int[] size : sizes) {
            on("promise 31: DRAWN on " + size[0] + " by " + size[1]);
            sized(size[0], size[1]);
            due(1, "paint", 3, 4, 0);
            for (int seed : a(0, 1, 5, -1, -7, 12345, LEAST, MOST, 1 << 30)) {
                for (int n : a(1, 2, 7, 30)) {
                    int[][] cells = cells(size, seed, n);
                    due(set(cells), "drawn", seed, n, 3, 1);
                    due(rects(cells), "drawn", seed, n, 3, 0);
                }
            }
            cover(3, 0);
        }
    }

    /** The last z as a number from 0 on, told in longs. */
    private long z;

    private int next(int among) {
        z = (z * 1103515245L + 12345L) & 0xFFFFFFFFL;
        return (int) ((z >> 9) % among);
    }

    /** One more than the NUMBER of each cell, 0 where it is UNSET. */
    private int[][] cells(int[] size, int seed, int n) {
        int[][] cells = new int[size[0]][size[1]];
        cells[0][0] = 5;
        z = seed;
        for (int k = 0; k < n; k++) {
            int a = next(size[0]), b = next(size[0]), c = next(size[1]), d = next(size[1]), e = next(11);
            for (int r = Math.min(a, b); r <= Math.max(a, b); r++) {
                for (int i = Math.min(c, d); i <= Math.max(c, d); i++) cells[r][i] = e;
            }
        }
        return cells;
    }

    private static int set(int[][] cells) {
        int set = 0;
        for (int[] row : cells) {
            for (int v : row) set += v > 0 ? 1 : 0;
        }
        return set;
    }

    private static int rects(int[][] cells) {
        int found = 0;
        for (int r = 0; r < cells.length; r++) {
            for (int c = 0; c < cells[r].length; c++) {
                boolean begins = cells[r][c] > 0 && (c == 0 || cells[r][c - 1] != cells[r][c]);
                if (begins && (r == 0 || !run(cells[r], c).equals(run(cells[r - 1], c)))) found++;
            }
        }
        return found;
    }

    /** The run that the cell is in: its number, where it begins and ends. */
    private static String run(int[] row, int c) {
        int a = c, b = c;
        while (a > 0 && row[a - 1] == row[c]) a--;
        while (b + 1 < row.length && row[b + 1] == row[c]) b++;
        return row[c] + " " + a + " " + b;
    }

    // ---- what is alike

    private void alike() {
        on("promise 32: MIXED: one CELL is enough; a RECT of one CELL is never so");
        due(1, "paint", 0, 1, 7070707);
        due(MIXED, "all", 0, 707);
        due(0, "all", 0, 706);
        due(0, "all", 0, 607);
        due(1, "all", 0, 7070707);
        due(0, "all", 1, 707);
        due(1, "lines", 0, 0, 1, 7);
        due(1, "all", 0, 707);
        rule(1, "row=0", 0, 0, 2, 0);
        due(MIXED, "all", 0, 707);
        due(2, "all", 0, 0);

        on("promise 33: of a RECT; 0 is a NUMBER, NONE is none");
        due(64, "many", 0, 0, 707);
        due(0, "many", 0, 1, 707);
        due(BAD, "many", 0, NONE, 707);
        due(BAD, "many", 0, 10, 707);
        due(1, "paint", 0, 9, 7070707);
        due(1, "many", 0, 9, 707);
        due(0, "many", 0, 9, 706);
        due(1, "many", 0, 9, 7070707);
        due(63, "many", 0, 0, 707);

        on("ALIKE: CELLs that SHOW the same in all four PROPERTIES");
        for (int p = 0; p < 4; p++) due(1, "paint", p, 1, 10001 * p);
        for (int p = 0; p < 4; p++) due(1, "alike", p);
        due(60, "alike", 4);
        due(5, "looks");
        for (int p = 0; p < 4; p++) due(1, "paint", p, 0, 0);
        due(61, "alike", 0);
        due(1, "paint", 3, NONE, 30003);
        due(62, "alike", 0);
        rule(1, "value=0", 0, 10001, 31, 0);
        due(1, "alike", 1);
        due(1, "value", 1, 1);
        due(1, "alike", 1);
        due(1, "paint", 1, NONE, 10001);
        due(63, "alike", 1);
        due(1, "paint", 2, 7, 5020502);
        due(1, "alike", 502);
        due(62, "alike", 501);
    }

    private void looksAndStripes() {
        on("promise 36: one look for all, as many as CELLs");
        due(1, "looks");
        for (int k = 0; k < 8; k++) {
            due(1, "lines", 0, 0, k, 101 * k);
            due(1, "lines", 1, 1, k, 101 * k);
        }
        due(64, "looks");
        for (int k = 0; k < 8; k++) due(8, "stripes", k);
        due(1, "alike", 0);
        due(1, "lines", 0, 0, NONE, 7);
        due(8, "looks");
        due(8, "alike", 7);
        on("promise 36: all looks that a CELL can have: 9 in each PROPERTY");
        for (int p = 0; p < 4; p++) due(1, "paint", p, 9, 0);
        due(2, "looks");
        due(1, "alike", 0);
        due(2, "stripes", 0);
        for (int p = 0; p < 4; p++) due(1, "paint", p, 9, 7070707);
        due(2, "looks");
        due(2, "alike", 0);
        due(2, "alike", 707);
        due(62, "alike", 706);
        due(62, "alike", 600);

        on("promise 37: STRIPES: 1 at least, as many as CELLs at most; like ones apart are two");
        due(1, "stripes", 0);
        due(1, "stripes", 7);
        due(BAD, "stripes", 8);
        due(BAD, "stripes", -1);
        paintRow(0, 0, 1, 0, 1, 0, 1, 0, 1, 0);
        due(8, "stripes", 0);
        due(1, "stripes", 1);
        due(2, "looks");
        due(1, "paint", 0, 1, 7);
        due(1, "stripes", 0);
        due(1, "paint", 3, 1, 70007);
        due(2, "stripes", 0);
        sized(8, 1);
        due(1, "stripes", 0);
    }

    /** Each look that a CELL can have, in two rows: the rows tell two of its numbers, the columns the others. */
    private void allLooks() {
        for (int row = 0; row < 100; row += 8) {
            for (int column = 0; column < 100; column += 16) {
                on("promise 36: looks from " + row + " and " + column + " on");
                sized(16, 16);
                for (int k = 0; k < 16; k++) {
                    int ahead = (row + k / 2) % 100, behind = (column + k) % 100;
                    due(1, "lines", 0, 0, ahead / 10, 101 * k);
                    due(1, "lines", 0, 1, ahead % 10, 101 * k);
                    due(1, "lines", 1, 2, behind / 10, 101 * k);
                    due(1, "lines", 1, 3, behind % 10, 101 * k);
                }
                due(128, "looks");
                due(2, "alike", 0);
                due(2, "alike", 1515);
                due(16, "stripes", 15);
            }
        }
        on("ALIKE: numbers that differ in two PROPERTIES");
        for (int p = 0; p < 4; p++) {
            due(1, "paint", p, 1, 1000100 * p);
            due(1, "paint", (p + 1) % 4, 9, 1000100 * p + 10001);
            due(1, "paint", p, 9, 1000100 * p + 20002);
        }
        for (int p = 0; p < 4; p++) {
            due(1, "alike", 100 * p);
            due(2, "alike", 100 * p + 1);
            due(2, "alike", 100 * p + 2);
        }
        due(52, "alike", 707);
        due(9, "looks");
    }

    private void greatest() {
        on("promise 34: 0: none, NONE");
        due(0, "greatest", 0, 1, 0);
        due(NONE, "greatest", 0, 1, 1);
        due(64, "greatest", 0, 0, 0);
        due(707, "greatest", 0, 0, 1);
        due(BAD, "greatest", 0, NONE, 0);
        due(BAD, "greatest", 0, 10, 0);
        due(BAD, "greatest", 0, 0, 2);
        due(1, "paint", 0, 9, 7070707);
        due(1, "greatest", 0, 9, 0);
        due(7070707, "greatest", 0, 9, 1);
        due(56, "greatest", 0, 0, 0);
        due(607, "greatest", 0, 0, 1);

        on("promise 34: of like ones that told by the least number: the same top left");
        due(1, "paint", 0, 1, 2020203);
        due(1, "paint", 0, 1, 2020302);
        due(2, "greatest", 0, 1, 0);
        due(2020203, "greatest", 0, 1, 1);
        due(1, "paint", 0, 1, 2020205);
        due(1, "paint", 0, 1, 2020502);
        due(2020205, "greatest", 0, 1, 1);
        on("promise 34: of like ones: less top, more left");
        due(1, "paint", 0, 1, 3000301);
        due(1, "paint", 0, 1, 2070307);
        due(2, "greatest", 0, 1, 0);
        due(2070307, "greatest", 0, 1, 1);
        due(1, "paint", 0, 1, 2000200);
        due(2000300, "greatest", 0, 1, 1);
        on("promise 34: SHOWN, not CELL's alone");
        due(1, "lines", 0, 0, 4, 1);
        due(1, "paint", 0, 4, 2000203);
        rule(1, "column<2", 0, 7, 5, 0);
        due(14, "many", 0, 4, 107);
        due(12, "greatest", 0, 4, 0);
        due(20107, "greatest", 0, 4, 1);
        due(1, "paint", 0, 4, 3000303);
        due(12, "greatest", 0, 4, 0);
        due(20107, "greatest", 0, 4, 1);
        due(1, "paint", 0, 4, 4000403);
        due(16, "greatest", 0, 4, 0);
        due(1000403, "greatest", 0, 4, 1);
    }

    private void strokes() {
        on("promise 38: 0 where all are UNSET; BAD");
        for (int row = 0; row < 8; row++) due(0, "strokes", row, 0);
        for (int row : a(-1, 8, LEAST, MOST)) due(BAD, "strokes", row, 0);
        for (int p : a(-1, 4, LEAST, MOST)) due(BAD, "strokes", 0, p);
        due(1, "lines", 0, 0, 5, 0);
        due(0, "strokes", 0, 0);
        due(1, "paint", 0, 0, 707);
        due(1, "strokes", 0, 0);
        due(0, "strokes", 0, 1);

        on("promise 38: one over another, and UNSET over what is set");
        paintRow(0, 0, 1, 2, 1, -1, 1, 2, 1, -1);
        due(4, "strokes", 0, 0);
        paintRow(0, 1, -1, 3, -1, 3, -1, 3, -1, -1);
        due(3, "strokes", 1, 0);
        paintRow(0, 2, 4, 4, 4, -1, 4, 4, 4, 4);
        due(2, "strokes", 2, 0);
        paintRow(0, 3, 1, 2, 3, 2, 1, 2, 3, 2);
        due(5, "strokes", 3, 0);
        paintRow(0, 4, 1, 2, 1, 2, 1, 2, 1, 2);
        due(5, "strokes", 4, 0);
        paintRow(0, 5, -1, -1, 0, -1, -1, -1, -1, -1);
        due(1, "strokes", 5, 0);

        on("promise 38: the longest row");
        sized(16, 16);
        paintRow(0, 0, 0, 1, 2, 3, 4, 5, 6, 7, 8, 9, 0, 1, 2, 3, 4, 5);
        due(15, "strokes", 0, 0);
        paintRow(0, 1, 0, 1, 2, 3, 4, 5, 6, 7, 7, 6, 5, 4, 3, 2, 1, 0);
        due(8, "strokes", 1, 0);
        paintRow(0, 2, 1, -1, 1, -1, 1, -1, 1, -1, 1, -1, 1, -1, 1, -1, 1, -1);
        due(8, "strokes", 2, 0);
        due(1, "paint", 0, 1, 3000315);
        due(1, "strokes", 3, 0);
        due(1, "paint", 0, 1, 4150415);
        due(1, "strokes", 4, 0);
        paintRow(0, 5, 1, -1, 1, -1, 1, -1, 1, -1, 1, -1, 1, -1, 1, -1, 1, 1);
        due(8, "strokes", 5, 0);
    }

    // ---- shelves

    private void rowsOnShelves() {
        on("SHELVES 0 .. 3 hold nothing (at first)");
        for (int shelf = 0; shelf < 4; shelf++) {
            due(VOID, "element", shelf, 0);
            due(NOTHING_THERE, "put", shelf, 0, 1);
            due(NOTHING_THERE, "put", shelf, -1, 1);
            due(NOTHING_THERE, "clip", shelf, 0, 0, 0);
            due(NOTHING_THERE, "paste", shelf, 0, 1, 0, 0);
        }
        for (int shelf : a(-1, 4, LEAST, MOST)) {
            due(BAD, "row", shelf, 1);
            due(BAD, "put", shelf, 0, 1);
            due(VOID, "element", shelf, 0);
            due(BAD, "clip", shelf, 0, 0, 0);
            due(BAD, "paste", shelf, 0, 1, 0, 0);
        }

        on("a ROW of shorts (0 .. 60; 0 at first)");
        due(1, "row", 0, 60);
        due(1, "row", 1, 0);
        due(1, "row", 2, 1);
        due(BAD, "row", 3, 61);
        due(BAD, "row", 3, MOST);
        due(NO_SIZE, "row", 3, -1);
        due(NO_SIZE, "row", 3, LEAST);
        due(BAD, "row", 4, 61);
        due(BAD, "row", -1, -1);
        due(VOID, "element", 3, 0);
        due(0, "element", 0, 0);
        due(0, "element", 0, 59);
        due(VOID, "element", 0, 60);
        due(VOID, "element", 0, -1);
        due(VOID, "element", 1, 0);
        due(NO_PLACE, "put", 1, 0, 1);
        due(0, "element", 2, 0);
        due(VOID, "element", 2, 1);
        for (int i : a(-1, 1, LEAST, MOST)) due(NO_PLACE, "put", 2, i, 1);
        due(1, "put", 0, 59, 5);
        due(NO_PLACE, "put", 0, 60, 5);
        due(0, "element", 2, 0);

        on("a ROW anew: 0 at first, others stay; a refused one leaves what is there");
        for (int shelf = 0; shelf < 4; shelf++) {
            due(1, "row", shelf, 60);
            for (int i : a(0, 3, 59)) due(1, "put", shelf, i, 10 * shelf + 1);
        }
        due(BAD, "row", 1, 61);
        due(NO_SIZE, "row", 1, -1);
        due(11, "element", 1, 59);
        due(1, "row", 1, 4);
        elements(1, 0, 0, 0, 0, VOID);
        due(1, "row", 1, 60);
        for (int i : a(0, 3, 59)) {
            due(0, "element", 1, i);
            due(1, "element", 0, i);
            due(21, "element", 2, i);
            due(31, "element", 3, i);
        }

        on("what is put in keeps its lowest 16 bits");
        due(1, "row", 0, 1);
        int[][] kept = {{32767, 32767}, {32768, -32768}, {65535, -1}, {65536, 0}, {65537, 1}, {-32768, -32768}, {-32769, 32767},
            {-65536, 0}, {-1, -1}, {MOST, -1}, {LEAST, 0}, {VOID, 27648}, {70005, 4469}};
        for (int[] two : kept) {
            due(1, "put", 0, 0, two[0]);
            due(two[1], "element", 0, 0);
        }
    }

    private void clips() {
        on("promise 43: -13: the ROW has no such places: the last five just has its places");
        due(1, "row", 0, 12);
        due(1, "paint", 0, 5, 1010202);
        due(1, "paint", 0, 6, 4040404);
        for (int i : a(3, 8, 12, 13, -1, LEAST, MOST)) due(NO_PLACE, "clip", 0, i, 0, 707);
        due(2, "clip", 0, 2, 0, 707);
        elements(0, 0, 0, 1, 1, 2, 2, 5, 4, 4, 4, 4, 6, VOID);
        due(NO_PLACE, "clip", 0, 8, 0, 404);
        due(2, "clip", 0, 0, 0, 404);
        due(1, "clip", 0, 7, 0, 4040707);
        elements(0, 1, 1, 2, 2, 5, 4, 4, 0, 0, 0, 0, 6, VOID);

        on("promise 43: with none to write: i is one of 0 .. its size");
        due(1, "row", 0, 3);
        for (int i = 0; i <= 3; i++) due(0, "clip", 0, i, 0, 707);
        for (int i : a(-1, 4, LEAST, MOST)) due(NO_PLACE, "clip", 0, i, 0, 707);
        due(1, "row", 0, 0);
        due(0, "clip", 0, 0, 0, 707);
        due(NO_PLACE, "clip", 0, 1, 0, 707);
        due(NO_PLACE, "clip", 0, -1, 0, 707);
        due(1, "paint", 0, 1, 0);
        due(NO_PLACE, "clip", 0, 0, 0, 707);
        due(0, "clip", 0, 0, 0, 7070707);

        on("promise 43: BAD, then -11, then -13");
        due(BAD, "clip", 4, -1, 4, -1);
        due(BAD, "clip", 0, -1, 4, 0);
        due(BAD, "clip", 0, -1, 0, 8);
        due(NOTHING_THERE, "clip", 0, -1, 0, 0);
        due(1, "row", 0, 60);
        due(NO_PLACE, "clip", 0, -1, 0, 0);

        on("a CLIP: RECTS that have CELLs in a told RECT, cut to it, from its top left");
        due(1, "row", 0, 40);
        due(1, "paint", 0, 1, 2020505);
        due(1, "clip", 0, 0, 0, 5050505);
        elements(0, 0, 0, 0, 0, 1);
        due(0, "clip", 0, 0, 0, 1060507);
        due(0, "clip", 0, 0, 0, 6020705);
        due(0, "clip", 0, 0, 0, 2010501);
        due(0, "clip", 0, 0, 0, 107);
        due(1, "clip", 0, 0, 0, 1010202);
        elements(0, 1, 1, 1, 1, 1);
        due(1, "clip", 0, 0, 0, 3030404);
        elements(0, 0, 0, 1, 1, 1);
        due(1, "clip", 0, 0, 0, 4000607);
        elements(0, 0, 2, 1, 5, 1);
        due(1, "clip", 0, 0, 0, 707);
        elements(0, 2, 2, 5, 5, 1, 0);
        due(0, "clip", 0, 0, 1, 707);
        elements(0, 2, 2, 5, 5, 1, 0);

        on("a CLIP: in their order: that of THE COVER, not of what is left of them");
        due(1, "row", 0, 15);
        due(1, "paint", 0, 1, 1050605);
        due(1, "paint", 0, 2, 2000600);
        due(1, "paint", 0, 3, 3020302);
        due(3, "clip", 0, 0, 0, 3000405);
        elements(0, 0, 5, 1, 5, 1, 0, 0, 1, 0, 2, 0, 2, 0, 2, 3);
    }

    private void clipsOfMany() {
        on("a CLIP: at most twelve have room in a ROW");
        sized(16, 16);
        for (int k = 0; k < 4; k++) due(1, "paint", 0, 6 + k, 1000100 * (k / 2) + 10001 * (k % 2));
        due(1, "copy", 101, 1515, 0);
        due(1, "row", 0, 60);
        due(NO_PLACE, "clip", 0, 0, 0, 1515);
        due(NO_PLACE, "clip", 0, 0, 0, 12);
        due(NO_PLACE, "clip", 0, 1, 0, 11);
        due(0, "element", 0, 4);
        due(12, "clip", 0, 0, 0, 14041509);
        elements(0, 0, 0, 0, 0, 6, 0, 1, 0, 1, 7);
        int[] last = {1, 5, 1, 5, 9};
        for (int k = 0; k < 5; k++) due(last[k], "element", 0, 55 + k);
        due(VOID, "element", 0, 60);
        due(12, "paste", 0, 0, 12, 1, 0);
        due(12, "rects", 1);
        due(6, "shown", 0, 1);
        due(9, "shown", 105, 1);
    }

    // ---- promise 15

    private void pasteRefusals() {
        on("promise 15: n (1 .. 12)");
        due(1, "row", 0, 60);
        for (int n : a(0, -1, 13, LEAST, MOST)) due(BAD, "paste", 0, 0, n, 0, 0);
        due(1, "paste", 0, 0, 1, 0, 0);
        due(12, "paste", 0, 0, 12, 0, 0);
        due(2, "count", 3);

        on("promise 15: -13: the ROW has no such places");
        due(1, "row", 0, 11);
        for (int i : a(-1, 7, 11, 12, LEAST, MOST)) due(NO_PLACE, "paste", 0, i, 1, 0, 0);
        for (int i : a(-1, 2, 6)) due(NO_PLACE, "paste", 0, i, 2, 0, 0);
        for (int i : a(0, 1, 6)) due(1, "paste", 0, i, 1, 0, 0);
        for (int i : a(0, 1)) due(2, "paste", 0, i, 2, 0, 0);
        due(NO_PLACE, "paste", 0, 0, 3, 0, 0);
        due(1, "row", 0, 4);
        due(NO_PLACE, "paste", 0, 0, 1, 0, 0);
        due(1, "row", 0, 5);
        due(1, "paste", 0, 0, 1, 0, 0);
        due(1, "row", 0, 0);
        due(NO_PLACE, "paste", 0, 0, 1, 0, 0);

        on("promise 15: BAD, then -11, then -13, then BAD");
        due(BAD, "paste", 4, -1, 0, 4, 8);
        due(BAD, "paste", 0, -1, 1, 4, 0);
        due(BAD, "paste", 0, -1, 1, 0, 8);
        due(BAD, "paste", 0, -1, 13, 0, 0);
        due(NOTHING_THERE, "paste", 0, -1, 1, 0, 0);
        due(1, "row", 0, 9);
        puts(0, 0, 0, 0, 0, 0, 10);
        due(NO_PLACE, "paste", 0, 0, 2, 0, 0);
        due(BAD, "paste", 0, 0, 1, 0, 0);

        on("promise 15: BAD: no NUMBER (0 .. 9): NONE is none");
        due(1, "row", 0, 5);
        for (int v : a(-1, 10, -2, 32767, -32768)) {
            due(1, "put", 0, 4, v);
            due(BAD, "paste", 0, 0, 1, 0, 0);
        }
        due(0, "count", 3);
        due(1, "put", 0, 4, 9);
        due(1, "paste", 0, 0, 1, 0, 0);
        due(1, "put", 0, 4, 65536);
        due(1, "paste", 0, 0, 1, 0, 0);
        due(0, "under", 0, 0, 1);
    }

    private void pastes() {
        on("promise 15: BAD: one isn't on THE SHEET, no RECT");
        due(1, "row", 0, 10);
        puts(0, 0, 0, 0, 7, 7, 1);
        due(1, "paste", 0, 0, 1, 0, 0);
        for (int cell : a(1, 100, 707)) due(BAD, "paste", 0, 0, 1, 0, cell);
        puts(0, 0, 1, 0, 0, 0, 1);
        due(BAD, "paste", 0, 0, 1, 0, 0);
        puts(0, 0, 0, 1, 0, 0, 1);
        due(BAD, "paste", 0, 0, 1, 0, 0);
        puts(0, 0, 0, 0, 0, 32767, 1);
        due(BAD, "paste", 0, 0, 1, 0, 0);
        puts(0, 0, -32768, 0, 0, 0, 1);
        due(BAD, "paste", 0, 0, 1, 0, 0);
        puts(0, 0, 0, 100, 0, 100, 1);
        due(BAD, "paste", 0, 0, 1, 0, 0);
        int[][] carried = {{4294, 96, 72, 96}, {0, 0, 1, -93}, {1, -100, 0, 0}, {0, 0, -1, 100}, {-1, 100, 0, 0}, {-1, 99, 100, 0},
            {0, -1, 100, 0}, {4294, 97, -27, -4}, {-4295, 3, 27, 4}};
        for (int[] five : carried) {
            puts(0, 0, five);
            due(BAD, "paste", 0, 0, 1, 0, 0);
        }
        puts(0, 0, -1, -1, 0, 0, 1);
        due(BAD, "paste", 0, 0, 1, 0, 7);
        due(BAD, "paste", 0, 0, 1, 0, 700);
        due(1, "count", 3);

        on("promise 15: where one is wrong none is PAINTED");
        due(1, "row", 0, 15);
        puts(0, 0, 0, 0, 1, 1, 5);
        puts(0, 5, 0, 0, 2, 2, 6);
        puts(0, 10, 0, 0, 3, 8, 7);
        due(BAD, "paste", 0, 0, 3, 0, 0);
        cover(0);
        due(0, "count", 3);
        due(STATE, "undo");
        due(2, "paste", 0, 0, 2, 0, 0);
        cover(0, 202);

        on("promise 15: PAINTED one behind another: the last one is over the others");
        due(1, "row", 0, 60);
        for (int k = 0; k < 12; k++) puts(0, 5 * k, 0, 0, 0, 7 - (k % 8), k % 10);
        due(12, "paste", 0, 0, 12, 3, 700);
        own(3, 7, 1, 1, 1, 1, 1, 0, 9, 8);
    }
}

/**
 * The sentences of the document about THE SHEET and its requests (Terms 1 and 2, promises 1 to 11) that name an edge:
 * each has an object of its own here, named by its words.
 */
final class SheetEdgesTest extends Script {
    private SheetEdgesTest() {
        super("SheetEdgesTest");
    }

    public static void main(String[] args) {
        SheetEdgesTest t = new SheetEdgesTest();
        t.sizes();
        t.codes();
        t.numbers();
        t.layers();
        t.covers();
        t.insertSizes();
        t.insertFormats();
        t.removeSizes();
        t.removeThenInsert();
        t.copies();
        t.tidies();
        t.sorts();
        t.moves();
        t.corners();
        t.check.end();
    }

    // ---- Terms 1

    private void sizes() {
        on("HIGH rows, WIDE columns: 8 at first");
        due(8, "count", 0);
        due(8, "count", 1);
        due(0, "valueAt", 707);
        due(VOID, "valueAt", 708);
        due(VOID, "valueAt", 807);

        on("HIGH rows, WIDE columns: 1 each at least");
        sized(1, 1);
        due(1, "count", 0);
        due(1, "count", 1);
        due(STATE, "remove", 0, 0);
        due(STATE, "remove", 1, 0);
        due(1, "paint", 0, 5, 0);
        for (int rect : a(1, 100, 101, 10001, 1000100)) due(BAD, "paint", 0, 6, rect);
        due(5, "shown", 0, 0);
        due(BAD, "shown", 1, 0);
        due(BAD, "shown", 100, 0);
        cover(0, 0);
        due(1, "looks");
        due(1, "alike", 0);
        due(1, "stripes", 0);
        due(BAD, "stripes", 1);
        due(1, "strokes", 0, 0);
        due(1, "greatest", 0, 5, 0);
        due(0, "greatest", 0, 5, 1);
        due(5, "all", 0, 0);
        due(1, "sort", 0, 0, 1);
        due(1, "move", 0, 0, 0);
        due(BAD, "move", 1, 0, 1);
        due(1, "copy", 0, 0, 1);
        due(5, "shown", 0, 0);

        on("HIGH rows, WIDE columns: 16 each at most");
        sized(16, 16);
        due(FULL, "insert", 0, 16, 1);
        due(FULL, "insert", 1, 0, 1);
        due(1, "value", 1515, 3);
        due(3, "valueAt", 1515);
        for (int cell : a(1516, 1615, 16, 1600)) due(BAD, "value", cell, 3);
        due(1, "paint", 0, 4, 1515);
        due(1, "paint", 0, 5, 15151515);
        for (int rect : a(1516, 1615, 15151516, 15151615)) due(BAD, "paint", 0, 4, rect);
        due(4, "shown", 1514, 0);
        due(5, "shown", 1515, 0);
        due(255, "many", 0, 4, 1515);
        due(240, "greatest", 0, 4, 0);
        due(1415, "greatest", 0, 4, 1);
        due(2, "stripes", 15);
        due(2, "strokes", 15, 0);
        due(255, "alike", 0);
    }

    private void codes() {
        on("a CELL is told as 100 * row + column, numbered from 0");
        due(1, "value", 0, 1);
        due(1, "value", 7, 2);
        due(1, "value", 700, 3);
        due(1, "value", 707, 4);
        for (int cell : a(-1, -100, -101, 8, 99, 108, 708, 799, 800, 807, LEAST, MOST)) due(BAD, "value", cell, 9);
        valuesAre(0, 1, 0, 0, 0, 0, 0, 0, 2);
        valuesAre(7, 3, 0, 0, 0, 0, 0, 0, 4);

        on("a RECT: top up to bottom, left up to right, on THE SHEET");
        due(1, "paint", 0, 1, 0);
        due(1, "paint", 0, 2, 7070707);
        due(1, "paint", 0, 3, 3030303);
        due(BAD, "paint", 0, 9, 3030203);
        due(BAD, "paint", 0, 9, 3030302);
        due(BAD, "paint", 0, 9, 3030202);
        for (int rect : a(-1, -1000000, 708, 807, 99, 9900, 8000807, 80708, 99999999, LEAST, MOST)) {
            due(BAD, "paint", 0, 9, rect);
        }
        cover(0, 0, 3030303, 7070707);

        on("two lines AB: first up to last, on THE SHEET");
        due(1, "lines", 0, 0, 1, 0);
        due(1, "lines", 0, 0, 2, 707);
        due(1, "lines", 1, 1, 3, 7);
        for (int ab : a(-1, -100, 100, 706, 8, 708, 808, 99, 800, LEAST, MOST)) {
            due(BAD, "lines", 0, 0, 9, ab);
            due(BAD, "lines", 1, 0, 9, ab);
        }
        due(1, "shown", 0, 0);
        due(0, "shown", 100, 0);
        due(2, "shown", 700, 0);
        due(3, "all", 1, 707);

        on("rows end at HIGH, columns at WIDE, where these are not the same");
        due(3, "remove", 0, 307);
        due(11, "insert", 1, 8, 3);
        due(1, "paint", 0, 1, 210);
        due(BAD, "paint", 0, 1, 310);
        due(BAD, "paint", 0, 1, 211);
        due(1, "lines", 0, 0, 1, 2);
        due(BAD, "lines", 0, 0, 1, 3);
        due(1, "lines", 1, 0, 1, 10);
        due(BAD, "lines", 1, 0, 1, 11);
        due(1, "value", 210, 1);
        due(BAD, "value", 310, 1);
        due(BAD, "value", 211, 1);
        due(BAD, "stripes", 3);
        due(BAD, "strokes", 3, 0);
        due(1, "sort", 2, 10, 0);
        due(BAD, "sort", 3, 10, 0);
        due(BAD, "sort", 2, 11, 0);
    }

    private void numbers() {
        on("VALUE: -999 .. 999; 0 at first");
        due(0, "valueAt", 0);
        due(1, "value", 0, -999);
        due(-999, "valueAt", 0);
        due(BAD, "value", 0, -1000);
        due(1, "value", 0, 999);
        due(BAD, "value", 0, 1000);
        due(BAD, "value", 0, LEAST);
        due(BAD, "value", 0, MOST);
        due(999, "valueAt", 0);

        on("PROPERTIES: 0 face, 1 size, 2 ink, 3 fill");
        for (int p = 0; p < 4; p++) due(1, "paint", p, p + 1, 0);
        for (int p : a(-1, 4, LEAST, MOST)) due(BAD, "paint", p, 1, 0);
        for (int p = 0; p < 4; p++) due(p + 1, "shown", 0, p);

        on("a NUMBER 0 .. 9, or UNSET (NONE, -1): CELL's");
        due(1, "paint", 0, 0, 0);
        due(0, "under", 0, 0, 1);
        due(1, "paint", 0, 9, 0);
        due(9, "under", 0, 0, 1);
        due(BAD, "paint", 0, 10, 0);
        due(BAD, "paint", 0, -2, 0);
        due(9, "under", 0, 0, 1);
        due(1, "paint", 0, NONE, 0);
        due(NONE, "under", 0, 0, 1);

        on("a NUMBER 0 .. 9, or UNSET (NONE, -1): ROW's, COLUMN's");
        for (int way = 0; way < 2; way++) {
            due(1, "lines", way, 0, 0, 0);
            due(0, "under", 0, 0, 2 + way);
            due(1, "lines", way, 0, 9, 0);
            due(BAD, "lines", way, 0, 10, 0);
            due(BAD, "lines", way, 0, -2, 0);
            due(9, "under", 0, 0, 2 + way);
            due(1, "lines", way, 0, NONE, 0);
            due(NONE, "under", 0, 0, 2 + way);
        }

        on("GROUND: a NUMBER; 0 at first");
        due(0, "under", 0, 3, 4);
        due(1, "ground", 3, 9);
        due(BAD, "ground", 3, NONE);
        due(BAD, "ground", 3, 10);
        due(9, "under", 0, 3, 4);
        due(1, "ground", 3, 0);
        due(0, "under", 0, 3, 4);
    }

    private void layers() {
        on("BENEATH: ROW's, if that is set, else COLUMN's, if that is set, else GROUND: 0 is set, too");
        due(1, "ground", 0, 5);
        due(1, "lines", 1, 0, 0, 101);
        due(1, "lines", 0, 0, 0, 101);
        shows(0, 0, 5, 0, 5);
        shows(0, 1, 0, 0, 0);
        due(0, "by", 0, 0);
        due(1, "by", 1, 0);
        due(2, "by", 101, 0);
        due(2, "by", 100, 0);
        due(1, "lines", 1, 0, 7, 101);
        due(0, "under", 101, 0, 4);
        due(7, "under", 1, 0, 4);

        on("PLAIN: CELL's, if set, else BENEATH: 0 is set, too");
        due(1, "ground", 0, 5);
        due(1, "paint", 0, 0, 0);
        due(0, "under", 0, 0, 0);
        due(5, "under", 1, 0, 0);
        due(3, "by", 0, 0);
        due(1, "paint", 0, NONE, 0);
        due(5, "under", 0, 0, 0);
        due(0, "by", 0, 0);

        on("for each PROPERTY: one's layers are not another's");
        due(1, "ground", 0, 1);
        due(1, "lines", 0, 1, 2, 0);
        due(1, "lines", 1, 2, 3, 0);
        due(1, "paint", 3, 4, 0);
        int[] from = {0, 2, 1, 3};
        for (int p = 0; p < 4; p++) {
            due(p + 1, "shown", 0, p);
            due(from[p], "by", 0, p);
        }
    }

    private void covers() {
        on("a RUN: the longest stretch of the same NUMBER; UNSET is none");
        cover(0);
        paintRow(0, 0, 1, 1, 2, -1, 0, 0, -1, 0);
        cover(0, 1, 20002, 40005, 70007);
        due(0, "rect", 0, 2, 1);
        due(NONE, "lies", 3, 0);
        due(3, "lies", 7, 0);
        due(1, "paint", 0, NONE, 707);
        cover(0);
        due(1, "paint", 0, 0, 707);
        cover(0, 707);

        on("a RUN that is one in the next row, too: the same columns and the same NUMBER");
        due(1, "paint", 0, 1, 10103);
        due(1, "paint", 0, 1, 2010204);
        due(1, "paint", 0, 1, 3000303);
        due(1, "paint", 0, 2, 4000403);
        due(1, "paint", 0, 2, 6000603);
        cover(0, 10103, 2010204, 3000303, 4000403, 6000603);

        on("RECTS are numbered by top, then by left");
        due(1, "paint", 0, 1, 5050505);
        due(1, "paint", 0, 2, 7000700);
        due(1, "paint", 0, 3, 2070707);
        due(1, "paint", 0, 4, 2000401);
        cover(0, 2000401, 2070707, 5050505, 7000700);
        due(1, "lies", 507, 0);
        due(2, "lies", 505, 0);

        on("RECTS at the edges of the greatest sheet");
        sized(16, 16);
        due(1, "paint", 0, 1, 1515);
        cover(0, 1515);
        due(1, "paint", 0, NONE, 15151515);
        cover(0, 1415, 15001514);
        due(NONE, "lies", 1515, 0);
        due(1, "lies", 1514, 0);
        due(0, "lies", 1415, 0);
    }

    // ---- Terms 2, promises 6 and 7

    private void insertSizes() {
        for (int way = 0; way < 2; way++) {
            on("promise 6: INSERT n (1 .. 16), way " + way);
            due(BAD, "insert", way, 0, 0);
            due(BAD, "insert", way, 0, -1);
            due(BAD, "insert", way, 0, 17);
            due(BAD, "insert", way, 0, LEAST);
            due(BAD, "insert", way, 0, MOST);
            due(9, "insert", way, 0, 1);
            due(FULL, "insert", way, 0, 16);
            due(8, "remove", way, 808);
            due(1, "remove", way, 6);
            due(FULL, "insert", way, 0, 16);
            due(16, "insert", way, 0, 15);

            on("promise 6: at a place (0 .. HIGH or WIDE), way " + way);
            due(BAD, "insert", way, -1, 1);
            due(BAD, "insert", way, 9, 1);
            due(9, "insert", way, 8, 1);
            due(10, "insert", way, 9, 1);
            due(11, "insert", way, 0, 1);
            due(BAD, "insert", way, 12, 1);
            due(BAD, "insert", way, LEAST, 1);
            due(BAD, "insert", way, MOST, 1);
            due(11, "count", way);
            due(8, "count", 1 - way);

            on("promise 6: FULL: more than 16, way " + way);
            due(FULL, "insert", way, 4, 9);
            due(8, "count", way);
            due(16, "insert", way, 4, 8);
            due(FULL, "insert", way, 4, 1);
            due(BAD, "insert", way, 17, 1);
            due(15, "remove", way, 1515);
            due(16, "insert", way, 15, 1);
        }
    }

    private void insertFormats() {
        on("INSERT: new CELLs: what the one ahead has, if the one that was at the place has the same NUMBER");
        paintRow(0, 2, 4, 4, 4, -1, -1, 0, 0);
        paintRow(0, 3, 4, 5, -1, 4, -1, 0, -1);
        due(1, "paint", 3, 7, 2000303);
        due(11, "insert", 0, 3, 3);
        for (int row = 3; row < 6; row++) own(0, row, 4, -1, -1, -1, -1, 0, -1);
        own(0, 6, 4, 5, -1, 4, -1, 0, -1);
        cover(3, 2000603);

        on("INSERT of columns: what the one ahead has in the same row");
        for (int row = 0; row < 4; row++) due(1, "paint", 1, row, 1000000 * row + 20000 + 100 * row + 3);
        due(1, "paint", 1, 9, 2030203);
        due(1, "paint", 1, NONE, 3020302);
        due(10, "insert", 1, 3, 2);
        int[] fresh = {0, 1, -1, -1, -1};
        for (int row = 0; row < 5; row++) {
            due(fresh[row], "under", 100 * row + 3, 1, 1);
            due(fresh[row], "under", 100 * row + 4, 1, 1);
        }
        due(9, "under", 205, 1, 1);

        on("INSERT at the start: there is none ahead");
        due(1, "paint", 0, 4, 707);
        due(10, "insert", 0, 0, 2);
        due(9, "insert", 1, 0, 1);
        cover(0, 2010908);

        on("INSERT at the end: none was at the place");
        due(1, "paint", 0, 4, 707);
        due(10, "insert", 0, 8, 2);
        due(9, "insert", 1, 8, 1);
        cover(0, 707);

        int[][] sizes = {{3, 11}, {11, 3}, {1, 16}, {16, 1}, {15, 15}};
        for (int[] size : sizes) {
            for (int way = 0; way < 2; way++) {
                if (size[way] == 1 || size[way] == 16) continue;
                on("INSERT on " + size[0] + " by " + size[1] + ": in the same column, row, up to the last one; way " + way);
                sized(size[0], size[1]);
                due(1, "paint", 2, 6, 100 * (size[0] - 1) + size[1] - 1);
                due(size[way] + 1, "insert", way, 1, 1);
                cover(2, 100 * (size[0] - way) + size[1] - 1 + way);
            }
        }

        on("INSERT of rows: the last column's neighbour is not the next row's first");
        sized(8, 16);
        due(1, "paint", 2, 6, 3000400);
        due(1, "paint", 2, 5, 2150315);
        due(11, "insert", 0, 3, 3);
        cover(2, 2150615, 6000700);

        on("INSERT: new CELLs: VALUE 0");
        values(2, 5, 6);
        values(3, 5, 6);
        due(9, "insert", 0, 3, 1);
        valuesAre(2, 5, 6);
        valuesAre(3, 0, 0);
        valuesAre(4, 5, 6);
        due(9, "insert", 1, 1, 1);
        valuesAre(2, 5, 0, 6);

        on("INSERT: ROW's, COLUMN's of new lines: UNSET; those of lines from the place on come later");
        due(1, "lines", 0, 0, 4, 7);
        due(1, "lines", 1, 0, 5, 7);
        due(9, "insert", 0, 3, 1);
        due(10, "insert", 1, 8, 2);
        for (int row = 0; row < 9; row++) due(row == 3 ? NONE : 4, "under", 100 * row, 0, 2);
        for (int column = 0; column < 10; column++) due(column < 8 ? 5 : NONE, "under", column, 0, 3);

        on("INSERT: a RULE's RECT that begins at the place, behind it, ahead of it, ends at it, ahead of it");
        rule(1, "1=1", 0, 4000500, 0, 0);
        rule(2, "1=1", 1, 5000500, 0, 0);
        rule(3, "1=1", 2, 3000400, 0, 0);
        rule(4, "1=1", 3, 2000300, 0, 0);
        rule(5, "1=1", 4, 700, 0, 0);
        rule(6, "1=1", 5, 7000700, 0, 0);
        due(10, "insert", 0, 4, 2);
        int[] rows = {6000700, 7000700, 3000600, 2000300, 900, 9000900};
        for (int k = 0; k < 6; k++) due(rows[k], "ruleOf", k, 0);
        due(9, "insert", 1, 0, 1);
        for (int k = 0; k < 6; k++) due(rows[k] + 10001, "ruleOf", k, 0);
        due(10, "insert", 1, 9, 1);
        for (int k = 0; k < 6; k++) due(rows[k] + 10001, "ruleOf", k, 0);
    }

    private void removeSizes() {
        for (int way = 0; way < 2; way++) {
            on("promise 7: REMOVE lines AB (not all): STATE, way " + way);
            due(STATE, "remove", way, 7);
            due(8, "count", way);
            due(7, "remove", way, 707);
            due(6, "remove", way, 0);
            due(STATE, "remove", way, 5);
            due(BAD, "remove", way, 6);
            due(BAD, "remove", way, 400 + 3);
            due(1, "remove", way, 105);
            due(STATE, "remove", way, 0);
            due(BAD, "remove", way, 1);
            due(BAD, "remove", way, 101);
            due(1, "count", way);

            on("REMOVE: they go, those behind close up, way " + way);
            for (int k = 0; k < 8; k++) {
                due(1, "value", way == 0 ? 100 * k : k, k);
                due(1, "lines", way, 0, k, 101 * k);
            }
            due(5, "remove", way, 204);
            int[] left = {0, 1, 5, 6, 7};
            for (int k = 0; k < 5; k++) {
                due(left[k], "valueAt", way == 0 ? 100 * k : k);
                due(left[k], "under", way == 0 ? 100 * k : k, 0, 2 + way);
            }
            due(VOID, "valueAt", way == 0 ? 500 : 5);
        }

        on("REMOVE: a RULE's RECT loses them: at its start, at its end, inside, beside it");
        rule(1, "1=1", 0, 3000500, 0, 0);
        rule(2, "1=1", 1, 300, 0, 0);
        rule(3, "1=1", 2, 700, 0, 0);
        rule(4, "1=1", 3, 200, 0, 0);
        rule(5, "1=1", 4, 5000700, 0, 0);
        due(6, "remove", 0, 304);
        int[] rects = {3000300, 200, 500, 200, 3000500};
        for (int k = 0; k < 5; k++) due(rects[k], "ruleOf", k, 0);

        on("REMOVE: if it has none left, the RULE goes (those behind it come one ahead)");
        for (int k = 0; k < 6; k++) rule(k + 1, "1=1", k, 1010101 * k, k, 0);
        due(6, "remove", 1, 203);
        due(4, "count", 2);
        int[] numbers = {0, 1, 4, 5}, columns = {0, 1, 2, 3};
        for (int k = 0; k < 4; k++) {
            due(numbers[k], "ruleOf", k, 2);
            due(1000100 * numbers[k] + 10001 * columns[k], "ruleOf", k, 0);
        }
        due(1, "remove", 1, 105);
        due(1, "count", 2);
        due(0, "ruleOf", 0, 2);
        due(1, "remove", 0, 107);
        due(1, "count", 2);
    }

    /** What was on lines that have gone is on none that come anew. */
    private void removeThenInsert() {
        on("REMOVE, then INSERT: new lines are empty");
        due(1, "paint", 0, 4, 6000707);
        due(1, "lines", 0, 1, 5, 707);
        due(1, "lines", 1, 1, 6, 707);
        due(1, "value", 707, 9);
        due(7, "remove", 0, 707);
        due(7, "remove", 1, 707);
        due(8, "insert", 0, 7, 1);
        due(8, "insert", 1, 7, 1);
        cover(0, 6000606);
        due(0, "valueAt", 707);
        due(NONE, "under", 707, 1, 2);
        due(NONE, "under", 707, 1, 3);
    }

    // ---- Terms 2, promises 8 to 11

    private void copies() {
        on("COPY: the CELL at (i % h, j % w): less than one time, one time, more than one time");
        paintRow(0, 0, 1, 2, 3);
        paintRow(0, 1, 4, 5, 6);
        due(1, "copy", 102, 3000301, 0);
        own(0, 3, 1, 2, -1);
        own(0, 4, -1, -1);
        due(1, "copy", 102, 3030405, 0);
        own(0, 3, 1, 2, -1, 1, 2, 3, -1);
        own(0, 4, -1, -1, -1, 4, 5, 6, -1);
        due(1, "copy", 102, 5000707, 0);
        own(0, 5, 1, 2, 3, 1, 2, 3, 1, 2);
        own(0, 6, 4, 5, 6, 4, 5, 6, 4, 5);
        own(0, 7, 1, 2, 3, 1, 2, 3, 1, 2);

        on("COPY, TURNED: at (j % h, i % w)");
        paintRow(0, 0, 1, 2, 3);
        paintRow(0, 1, 4, 5, 6);
        due(1, "copy", 102, 2000604, 1);
        own(0, 2, 1, 4, 1, 4, 1, -1);
        own(0, 3, 2, 5, 2, 5, 2, -1);
        own(0, 4, 3, 6, 3, 6, 3, -1);
        own(0, 5, 1, 4, 1, 4, 1, -1);
        own(0, 6, 2, 5, 2, 5, 2, -1);

        on("COPY: as all was ahead of it, where the RECTS overlap");
        paintRow(0, 0, 1, 2, 3, 4);
        due(1, "copy", 3, 10004, 0);
        own(0, 0, 1, 1, 2, 3, 4, -1);
        due(1, "copy", 10004, 3, 0);
        own(0, 0, 1, 2, 3, 4, 4, -1);
        due(1, "copy", 3, 3, 1);
        own(0, 0, 1, 1, 1, 1, 4, -1);
        on("COPY: TURNED onto itself");
        paintRow(0, 0, 1, 2);
        paintRow(0, 1, 3, -1);
        due(1, "copy", 101, 101, 1);
        own(0, 0, 1, 3);
        own(0, 1, 2, -1);

        on("COPY: of all PROPERTIES, UNSET too; nothing else comes along");
        for (int p = 0; p < 4; p++) due(1, "paint", p, 5 + p, 1);
        due(1, "paint", 3, NONE, 0);
        due(1, "value", 0, 7);
        due(1, "lines", 0, 0, 9, 0);
        due(1, "paint", 3, 1, 7060707);
        due(1, "copy", 0, 7060707, 0);
        int[] due = {5, 6, 7, -1};
        for (int p = 0; p < 4; p++) {
            due(due[p], "under", 706, p, 1);
            due(due[p], "under", 707, p, 1);
        }
        due(0, "valueAt", 707);
        due(NONE, "under", 707, 0, 2);

        on("COPY of a CELL to all, and of all to a CELL");
        sized(16, 16);
        due(1, "paint", 2, 8, 15151515);
        due(1, "copy", 15151515, 1515, 1);
        due(8, "all", 2, 1515);
        due(1, "paint", 2, 3, 0);
        due(1, "copy", 1515, 15151515, 0);
        due(3, "shown", 1515, 2);
    }

    private void tidies() {
        on("TIDY: CELL's that are set and the same NUMBER as BENEATH: 0, too; UNSET is none");
        due(0, "needless", 0);
        due(0, "tidy", 0);
        due(1, "paint", 0, 0, 101);
        due(4, "needless", 0);
        due(1, "lines", 0, 0, 1, 0);
        due(2, "needless", 0);
        due(1, "lines", 1, 0, 0, 0);
        due(2, "needless", 0);
        due(1, "lines", 1, 0, 2, 101);
        due(1, "needless", 0);
        due(1, "tidy", 0);
        own(0, 0, 0, 0);
        own(0, 1, -1, 0);
        due(0, "needless", 0);
        due(0, "tidy", 0);

        on("TIDY of all CELLs");
        sized(16, 16);
        due(1, "ground", 1, 4);
        due(1, "paint", 1, 4, 1515);
        due(256, "needless", 1);
        due(0, "needless", 0);
        due(256, "tidy", 1);
        cover(1);
        due(4, "all", 1, 1515);
    }

    private void sorts() {
        on("SORT: those of like VALUES as they stood, rising and falling");
        for (int r = 0; r < 8; r++) values(r, r % 3 - 1, r);
        due(1, "sort", 7, 0, 0);
        int[] rising = {0, 3, 6, 1, 4, 7, 2, 5};
        for (int r = 0; r < 8; r++) due(rising[r], "valueAt", 100 * r + 1);
        due(1, "sort", 7, 1, 0);
        due(1, "sort", 7, 0, 1);
        int[] falling = {2, 5, 1, 4, 7, 0, 3, 6};
        for (int r = 0; r < 8; r++) due(falling[r], "valueAt", 100 * r + 1);

        on("SORT: one row, and rows behind which others stay");
        values(0, 5);
        values(1, 3);
        values(2, 1);
        due(1, "sort", 101, 0, 0);
        due(3, "valueAt", 100);
        due(1, "sort", 1, 0, 0);
        for (int r = 0; r < 3; r++) due(a(3, 5, 1)[r], "valueAt", 100 * r);
        due(1, "sort", 102, 0, 0);
        for (int r = 0; r < 3; r++) due(a(3, 1, 5)[r], "valueAt", 100 * r);

        on("SORT: the least and the greatest VALUE");
        values(0, -999);
        values(1, 999);
        due(1, "sort", 1, 0, 1);
        due(999, "valueAt", 0);
        due(-999, "valueAt", 100);
        due(1, "sort", 7, 0, 0);
        due(-999, "valueAt", 0);
        due(999, "valueAt", 700);

        on("SORT: BAD");
        bad("sort", 0, a(7, 0, 0), -1, 8, 100, 706, 808, LEAST, MOST);
        bad("sort", 1, a(7, 0, 0), -1, 8, LEAST, MOST);
        bad("sort", 2, a(7, 0, 0), -1, 2, LEAST, MOST);
        due(0, "count", 3);
    }

    private void moves() {
        for (int way = 0; way < 2; way++) {
            on("MOVE: to a place among the others (0 .. how many others there are), way " + way);
            for (int k = 0; k < 8; k++) due(1, "value", way == 0 ? 100 * k : k, k);
            due(BAD, "move", way, 203, -1);
            due(BAD, "move", way, 203, 7);
            lines(way, 0, 1, 2, 3, 4, 5, 6, 7);
            due(1, "move", way, 203, 6);
            lines(way, 0, 1, 4, 5, 6, 7, 2, 3);
            due(1, "move", way, 607, 0);
            lines(way, 2, 3, 0, 1, 4, 5, 6, 7);
            due(1, "move", way, 1, 2);
            lines(way, 0, 1, 2, 3, 4, 5, 6, 7);
            due(1, "move", way, 405, 4);
            lines(way, 0, 1, 2, 3, 4, 5, 6, 7);
            due(1, "move", way, 7, 0);
            due(BAD, "move", way, 7, 1);
            due(1, "move", way, 6, 1);
            lines(way, 7, 0, 1, 2, 3, 4, 5, 6);

            on("MOVE: ROW's (COLUMN's), CELL's come along; RULES' RECTS stay, way " + way);
            rule(1, "value = 5", 0, 0, 39, 0);
            due(1, "lines", way, 0, 4, 707);
            due(1, "lines", 1 - way, 0, 3, 707);
            due(1, "paint", 1, 6, way == 0 ? 7000700 : 70007);
            due(1, "value", way == 0 ? 700 : 7, 5);
            due(1, "move", way, 707, 0);
            due(4, "under", 0, 0, 2 + way);
            due(NONE, "under", 707, 0, 2 + way);
            due(3, "under", 707, 0, 3 - way);
            due(6, "under", 0, 1, 1);
            due(0, "ruleOf", 0, 0);
            due(9, "shown", 0, 3);
        }
    }

    /** Nothing runs over from the last column into the next row, nor from the last row into the next PROPERTY. */
    private void corners() {
        for (int way = 0; way < 2; way++) {
            on("MOVE on the greatest sheet: all comes along, up to the last CELL; way " + way);
            sized(16, 16);
            int second = way == 0 ? 100 : 1;
            for (int p = 0; p < 4; p++) {
                due(1, "paint", p, p, 0);
                due(1, "paint", p, p + 2, way == 0 ? 1000100 : 10001);
                due(1, "paint", p, p + 5, 15151515);
            }
            due(1, "move", way, 0, 1);
            for (int p = 0; p < 4; p++) corners(p, p + 2, second, p);
            due(1, "move", way, 101, 0);
            for (int p = 0; p < 4; p++) corners(p, p, second, p + 2);
            due(1, "move", way, 1, 14);
            due(1, "move", way, 1415, 0);
            for (int p = 0; p < 4; p++) corners(p, p, second, p + 2);
        }

        on("SORT on the greatest sheet: all comes along, up to the last CELL");
        sized(16, 16);
        for (int p = 0; p < 4; p++) {
            due(1, "paint", p, p, 0);
            due(1, "paint", p, p + 2, 1000100);
            due(1, "paint", p, p + 5, 15151515);
        }
        due(1, "value", 1515, 1);
        due(1, "value", 115, -1);
        due(1, "sort", 15, 15, 0);
        for (int p = 0; p < 4; p++) corners(p, p + 2, 100, p);
        due(1, "valueAt", 1515);
        due(-1, "valueAt", 15);
    }

    private void corners(int p, int first, int second, int secondIs) {
        due(first, "under", 0, p, 1);
        due(secondIs, "under", second, p, 1);
        due(p + 5, "under", 1515, p, 1);
        cover(p, 0, second == 1 ? 10001 : 1000100, 15151515);
    }

    private void lines(int way, int... values) {
        for (int k = 0; k < values.length; k++) due(values[k], "valueAt", way == 0 ? 100 * k : k);
    }
}

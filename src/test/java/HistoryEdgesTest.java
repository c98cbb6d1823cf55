/**
 * The sentences of the document about HISTORY and AN IMAGE (Terms 2 and 4, promises 17 to 19 and 47 to 50) that name an
 * edge: each has an object of its own here, named by its words.
 */
final class HistoryEdgesTest extends Script {
    private HistoryEdgesTest() {
        super("HistoryEdgesTest");
    }

    public static void main(String[] args) {
        HistoryEdgesTest t = new HistoryEdgesTest();
        t.none();
        t.latest30();
        t.roundAndRound();
        t.requestsThatChangeNothing();
        t.requestsThatChange();
        t.callsThatAreNone();
        t.tillAnotherComes();
        t.whatWasToldThen();
        t.before();
        t.beforeOfLatest30();
        t.noImage();
        t.differs();
        t.images();
        t.back();
        t.count();
        t.check.end();
    }

    /** So many may be undone, so many done again. */
    private void may(int undo, int redo) {
        due(undo, "count", 3);
        due(redo, "count", 4);
    }

    // ---- promises 17 and 18

    private void none() {
        on("promises 17, 18: STATE: none");
        may(0, 0);
        due(STATE, "undo");
        due(STATE, "redo");
        due(1, "value", 0, 1);
        due(STATE, "redo");
        due(0, "undo");
        due(STATE, "undo");
        may(0, 1);
        due(0, "redo");
        due(STATE, "redo");
        may(1, 0);
        due(1, "valueAt", 0);
    }

    private void latest30() {
        on("the latest 30 can be UNDONE: 30 are all of 30");
        for (int k = 1; k <= 30; k++) {
            due(1, "value", 0, k);
            due(k, "count", 3);
        }
        for (int k = 29; k >= 0; k--) due(k, "undo");
        due(STATE, "undo");
        due(0, "valueAt", 0);
        may(0, 30);

        on("the latest 30 can be UNDONE: of 31 the first can't");
        for (int k = 1; k <= 31; k++) due(1, "value", 0, k);
        may(30, 0);
        for (int k = 29; k >= 0; k--) due(k, "undo");
        due(STATE, "undo");
        due(1, "valueAt", 0);
        for (int k = 29; k >= 0; k--) due(k, "redo");
        due(STATE, "redo");
        due(31, "valueAt", 0);

        on("the latest 30, the latest first");
        for (int k = 1; k <= 100; k++) due(1, "value", 0, k);
        may(30, 0);
        for (int k = 29; k >= 0; k--) {
            due(k, "undo");
            due(70 + k, "valueAt", 0);
        }
        for (int k = 29; k >= 0; k--) {
            due(k, "redo");
            due(100 - k, "valueAt", 0);
        }
    }

    private void roundAndRound() {
        on("UNDONE, told anew, again and again, more often than 30 times");
        int[] there = new int[200];
        int size = 0, kept = 0;
        for (int k = 1; k <= 60; k++) {
            due(1, "value", 0, k);
            there[++size] = k;
            kept = Math.min(30, kept + 1);
            if (k % 7 == 0) {
                for (int n = 0; n < 4; n++) {
                    due(--kept, "undo");
                    size--;
                }
                due(3, "redo");
                size++;
                kept++;
            }
            due(there[size], "valueAt", 0);
        }
        may(kept, 0);
    }

    private void requestsThatChangeNothing() {
        String[] calls = {"paint 0 -1 0", "lines 0 0 -1 7", "lines 1 0 -1 7", "ground 0 0", "value 0 0", "copy 0 0 0", "copy 0 303 1",
            "sort 7 0 0", "sort 0 0 1", "move 0 0 0", "move 1 707 7", "move 0 7 0", "tidy 0", "bring 0 0", "paste 0 0 1 1 0", "run 0"};
        for (String call : calls) {
            on("each call under requests that isn't refused is one REQUEST (also if all stays as it is): " + call);
            rule(1, "1=2", 0, 707, 0, 0);
            due(1, "paint", 1, 0, 0);
            text(0, "");
            due(1, "row", 0, 5);
            due(1, "value", 0, 5);
            due(2, "undo");
            may(2, 1);
            String[] words = call.split(" ");
            int[] a = new int[words.length - 1];
            for (int i = 0; i < a.length; i++) a[i] = Integer.parseInt(words[i + 1]);
            due(call.startsWith("tidy") || call.startsWith("run") ? 0 : 1, words[0], a);
            may(3, 0);
            due(2, "undo");
            may(2, 1);
            due(0, "redo");
            due(1, "rects", 1);
            due(1, "looks");
        }
    }

    private void requestsThatChange() {
        on("each call under requests is one REQUEST: INSERT, REMOVE, RULES, a PROGRAM");
        due(9, "insert", 0, 0, 1);
        may(1, 0);
        due(7, "remove", 1, 7 * 101);
        may(2, 0);
        rule(1, "1=1", 0, 0, 3, 0);
        may(3, 0);
        due(0, "drop", 0);
        may(4, 0);
        text(0, "paint face 1 a0;paint face 2 a0;insert rows 0 by 2;tidy ink;");
        may(4, 0);
        due(4, "run", 0);
        may(5, 0);
        due(4, "undo");
        due(9, "count", 0);
        due(0, "rects", 0);
        due(3, "undo");
        due(1, "count", 2);
        due(3, "shown", 0, 0);
        due(2, "undo");
        due(0, "count", 2);
        due(1, "undo");
        due(8, "count", 1);
        due(0, "undo");
        due(8, "count", 0);
        for (int k = 4; k >= 0; k--) due(k, "redo");
        due(11, "count", 0);
        due(7, "count", 1);
        due(0, "count", 2);
        due(2, "shown", 200, 0);
    }

    private void callsThatAreNone() {
        on("other calls are no REQUEST: what may be DONE AGAIN stays");
        due(1, "paint", 0, 1, 101);
        due(1, "paint", 0, 2, 0);
        due(1, "undo");
        may(1, 1);
        due(1, "row", 0, 20);
        due(1, "put", 0, 0, 1);
        due(1, "element", 0, 0);
        due(1, "clip", 0, 0, 0, 707);
        feed("tidy face;");
        due(10, "count", 6);
        due(0, "text");
        due(1, "tests", 0, 0);
        due(1, "image");
        due(0, "differs");
        due(2, "would", 0, NONE, 0);
        due(1, "drawn", 5, 0, 0, 0);
        due(0, "before", 0, 0, 0);
        due(1, "shown", 0, 0);
        due(0, "needless", 0);
        may(1, 1);
        due(0, "redo");
        due(2, "shown", 0, 0);
    }

    private void tillAnotherComes() {
        on("DONE AGAIN (till another REQUEST comes): not by a refused one");
        due(1, "value", 0, 1);
        due(1, "value", 0, 2);
        due(1, "undo");
        text(0, "paint face 1 a0;paint face 1 i0;");
        due(1, "row", 0, 10);
        puts(0, 4, 5, 0, 0, 0, 0, 10);
        due(BAD, "value", 0, 1000);
        due(BAD, "paint", 0, 10, 0);
        due(BAD, "lines", 0, 0, 0, 8);
        due(BAD, "ground", 0, NONE);
        due(FULL, "insert", 0, 0, 9);
        due(STATE, "remove", 0, 7);
        due(BAD, "copy", 0, 8, 0);
        due(BAD, "sort", 8, 0, 0);
        due(BAD, "move", 0, 0, 8);
        due(BAD, "tidy", 4);
        due(-100, "rule", 0, 0, 0, 0);
        due(BAD, "drop", 0);
        due(BAD, "bring", 0, 0);
        due(BAD, "paste", 0, 0, 2, 0, 0);
        due(-102, "run", 0);
        due(BAD, "run", 1);
        may(1, 1);
        due(0, "redo");
        due(2, "valueAt", 0);

        on("DONE AGAIN (till another REQUEST comes): all that might be is gone");
        for (int k = 1; k <= 5; k++) due(1, "value", 0, k);
        for (int k = 4; k >= 2; k--) due(k, "undo");
        may(2, 3);
        due(1, "value", 1, 9);
        may(3, 0);
        due(STATE, "redo");
        due(2, "undo");
        may(2, 1);
        due(0, "redo");
        due(2, "valueAt", 0);
        due(9, "valueAt", 1);
        for (int k = 2; k >= 0; k--) due(k, "undo");
        due(1, "value", 2, 1);
        may(1, 0);
    }

    private void whatWasToldThen() {
        on("it goes by what was told then: ROWS on SHELVES do not count any more");
        due(1, "row", 0, 5);
        puts(0, 0, 0, 0, 1, 1, 4);
        due(1, "paste", 0, 0, 1, 0, 0);
        due(0, "undo");
        puts(0, 0, 2, 2, 1, 1, 12);
        due(0, "redo");
        cover(0, 101);
        due(1, "row", 0, 0);
        due(0, "undo");
        due(0, "redo");
        cover(0, 101);
        due(VOID, "element", 0, 0);

        on("it goes by what was told then: PROGRAMS, THE TAPE do not count any more");
        text(0, "paint face 3 a0;");
        due(1, "run", 0);
        rule(1, "value=0", 0, 1, 14, 0);
        feed("value=1");
        due(1, "undo");
        due(0, "undo");
        due(1, "redo");
        due(0, "redo");
        due(7, "count", 6);
        due(1, "count", 5);
        due(3, "shown", 0, 0);
        due(4, "shown", 0, 1);
        due(1, "value", 0, 1);
        due(0, "shown", 0, 1);
        due(4, "shown", 1, 1);

        on("it goes by what was told then: neither SHELVES nor PROGRAMS nor THE TAPE are UNDONE");
        due(1, "value", 0, 1);
        due(1, "row", 0, 3);
        due(1, "put", 0, 2, 7);
        text(0, "tidy face;");
        feed("abc");
        due(0, "undo");
        due(7, "element", 0, 2);
        due(1, "count", 5);
        due(3, "count", 6);
    }

    // ---- promise 19

    private void before() {
        on("promise 19: the first k (0 .. how many may be UNDONE)");
        due(0, "before", 0, 0, 0);
        due(BAD, "before", 1, 0, 0);
        due(BAD, "before", -1, 0, 0);
        for (int k = 1; k <= 3; k++) due(1, "paint", 0, k, 0);
        for (int k = 0; k <= 3; k++) due(k, "before", k, 0, 0);
        for (int k : a(-1, 4, LEAST, MOST)) due(BAD, "before", k, 0, 0);
        due(2, "undo");
        due(2, "before", 2, 0, 0);
        due(BAD, "before", 3, 0, 0);
        due(1, "undo");
        due(0, "undo");
        due(0, "before", 0, 0, 0);
        due(BAD, "before", 1, 0, 0);
        due(2, "redo");
        due(1, "before", 1, 0, 0);

        on("promise 19: NONE: no such CELL was there; BAD: no such CELL (0 .. 15 for row and column)");
        due(9, "insert", 0, 0, 1);
        due(7, "remove", 1, 0);
        due(NONE, "before", 0, 800, 0);
        due(0, "before", 1, 800, 0);
        due(0, "before", 1, 807, 0);
        due(NONE, "before", 2, 807, 0);
        due(0, "before", 2, 806, 0);
        due(NONE, "before", 2, 900, 0);
        for (int cell : a(1515, 1500, 15)) due(NONE, "before", 2, cell, 0);
        for (int cell : a(1516, 1600, 16, 99, 1599, 1615, -1, -100, LEAST, MOST)) due(BAD, "before", 2, cell, 0);
        for (int p : a(-1, 4)) {
            due(BAD, "before", 2, 0, p);
            due(BAD, "before", 2, 1515, p);
        }
        due(BAD, "before", 3, 1515, 0);
        may(2, 0);

        on("promise 19: SHOWN: by the RULES, VALUES and lines that were there then");
        due(1, "value", 0, 2);
        rule(1, "value=2", 0, 707, 5, 0);
        due(1, "value", 0, 3);
        rule(2, "sum=3", 0, 707, 6, 0);
        due(1, "drop", 1);
        due(7, "remove", 0, 0);
        int[] shown = {0, 0, 5, 0, 6, 6, 0};
        for (int k = 0; k <= 6; k++) due(shown[k], "before", k, 0, 0);
        due(0, "shown", 0, 0);
        due(1, "count", 2);
        for (int k = 5; k >= 2; k--) due(k, "undo");
        due(5, "shown", 0, 0);
        due(5, "before", 2, 0, 0);
        due(0, "before", 1, 0, 0);
    }

    private void beforeOfLatest30() {
        on("promise 19: SHOWN: by a RULE at the CELLs of its RECT alone");
        rule(1, "1=1", 0, 2030405, 7, 0);
        for (int cell : a(203, 205, 403, 405, 304)) due(7, "before", 1, cell, 0);
        for (int cell : a(103, 104, 202, 206, 302, 306, 402, 406, 503, 505, 0, 707)) due(0, "before", 1, cell, 0);
        due(0, "before", 0, 304, 0);

        on("promise 19: of those REQUESTS that may be UNDONE");
        for (int k = 1; k <= 34; k++) due(1, "ground", 0, k % 10);
        for (int k = 0; k <= 30; k++) due((k + 4) % 10, "before", k, 707, 0);
        due(BAD, "before", 31, 0, 0);
        due(4, "shown", 0, 0);
    }

    // ---- promises 47 to 50

    private void noImage() {
        on("promises 48, 49: STATE: there is none");
        due(STATE, "back");
        due(STATE, "differs");
        due(1, "value", 0, 1);
        due(STATE, "back");
        due(1, "count", 3);
        due(1, "image");
        due(0, "differs");
        due(1, "back");
    }

    private void differs() {
        on("promise 49: how many CELLs SHOW otherwise (in any PROPERTY): none, one in all, all");
        due(1, "image");
        due(0, "differs");
        due(1, "value", 0, 5);
        due(1, "paint", 0, 0, 0);
        due(0, "differs");
        for (int p = 0; p < 4; p++) {
            due(1, "paint", p, 9, 7070707);
            due(1, "differs");
        }
        due(1, "ground", 3, 1);
        due(64, "differs");

        on("promise 49: NONE: it is of another HIGH or WIDE");
        due(7, "remove", 0, 0);
        due(1, "image");
        due(8, "insert", 0, 0, 1);
        due(NONE, "differs");
        due(7, "remove", 1, 0);
        due(NONE, "differs");
        due(7, "remove", 0, 0);
        due(NONE, "differs");
        due(8, "insert", 1, 0, 1);
        due(0, "differs");
        due(1, "paint", 0, 1, 607);
        due(56, "differs");

        on("promise 49: by the RULES that THE IMAGE has, and by its VALUES");
        rule(1, "value=1", 0, 707, 1, 0);
        due(1, "value", 0, 1);
        due(1, "image");
        due(1, "value", 0, 2);
        due(1, "differs");
        due(1, "value", 1, 1);
        due(2, "differs");
        due(0, "drop", 0);
        due(1, "differs");
        due(1, "paint", 0, 1, 0);
        due(0, "differs");
    }

    private void images() {
        on("promise 47: AN IMAGE keeps THE SHEET with all that is on it");
        due(10, "insert", 0, 8, 2);
        due(5, "remove", 1, 507);
        due(1, "paint", 0, 1, 9040904);
        due(1, "lines", 0, 1, 2, 9 * 101);
        due(1, "lines", 1, 2, 3, 4 * 101);
        due(1, "ground", 3, 4);
        due(1, "value", 904, -5);
        rule(1, "value=-5", 0, 904, 15, 1);
        rule(2, "1=1", 1, 0, 26, 0);
        due(1, "image");
        due(1, "drop", 0);
        due(3, "remove", 0, 309);
        due(9, "insert", 1, 0, 4);
        due(1, "ground", 3, 0);
        due(1, "back");
        sheetOfImage();

        on("promise 47: one that is kept anew takes the place of the other");
        due(1, "paint", 0, 1, 0);
        due(1, "image");
        due(1, "paint", 0, 2, 0);
        due(1, "image");
        due(1, "paint", 0, 3, 0);
        due(1, "back");
        due(2, "shown", 0, 0);
        due(1, "image");
        due(1, "back");
        due(2, "shown", 0, 0);
    }

    private void sheetOfImage() {
        due(10, "count", 0);
        due(5, "count", 1);
        due(2, "count", 2);
        cover(0, 9040904);
        due(2, "under", 900, 1, 2);
        due(3, "under", 4, 2, 3);
        due(4, "under", 0, 3, 4);
        due(-5, "valueAt", 904);
        due(904, "ruleOf", 0, 0);
        due(1, "ruleOf", 0, 3);
        due(1, "ruleOf", 0, 4);
        due(5, "shown", 904, 1);
        due(6, "shown", 0, 2);
        may(0, 0);
    }

    private void back() {
        on("promise 48: HISTORY is empty; SHELVES, PROGRAMS, THE TAPE stay");
        due(1, "paint", 0, 1, 0);
        due(1, "image");
        due(1, "paint", 0, 2, 0);
        due(1, "paint", 0, 3, 0);
        due(2, "undo");
        may(2, 1);
        due(1, "row", 0, 2);
        due(1, "put", 0, 1, 5);
        text(0, "tidy ink;");
        feed("x");
        due(1, "back");
        may(0, 0);
        due(STATE, "undo");
        due(STATE, "redo");
        due(1, "shown", 0, 0);
        due(1, "before", 0, 0, 0);
        due(BAD, "before", 1, 0, 0);
        due(5, "element", 0, 1);
        due(1, "count", 5);
        due(1, "count", 6);
        due(1, "paint", 0, 4, 0);
        may(1, 0);
        due(0, "undo");
        due(1, "shown", 0, 0);
        due(1, "back");
        may(0, 0);

        on("promise 48: back is no REQUEST, THE IMAGE stays for the next time");
        due(1, "image");
        for (int k = 0; k < 3; k++) {
            for (int n = 1; n <= 33; n++) due(1, "paint", 0, n % 9 + 1, 707);
            may(30, 0);
            due(64, "differs");
            due(1, "back");
            due(0, "differs");
            cover(0);
        }
    }

    private void count() {
        on("promise 50: what 0 .. 6");
        for (int what : a(-1, 7, LEAST, MOST)) due(BAD, "count", what);
        due(16, "insert", 0, 0, 8);
        due(1, "remove", 1, 6);
        for (int k = 0; k < 6; k++) rule(k + 1, "1=1", 0, 0, 0, 0);
        for (int k = 0; k < 30; k++) due(1, "value", 0, k);
        for (int k = 29; k >= 25; k--) due(k, "undo");
        for (int k = 0; k < 4; k++) text(k, "");
        feed(" ".repeat(200));
        int[] counts = {16, 1, 6, 25, 5, 4, 200};
        for (int what = 0; what < 7; what++) due(counts[what], "count", what);
    }
}

/** Promise by promise: ordinary calls, the edges that the document names, and wrong arguments. */
final class PromiseTest extends Script {
    private PromiseTest() {
        super("PromiseTest");
    }

    public static void main(String[] args) {
        PromiseTest t = new PromiseTest();
        t.sheet();
        t.requests();
        t.lineRequests();
        t.rules();
        t.conditions();
        t.pasteAndRun();
        t.history();
        t.cells();
        t.covers();
        t.alike();
        t.shelves();
        t.programs();
        t.image();
        t.check.end();
    }

    // ---- 1

    private void sheet() {
        on("promise 1, a new object");
        int[] counts = {8, 8, 0, 0, 0, 0, 0};
        for (int what = 0; what < 7; what++) due(counts[what], "count", what);
        for (int p = 0; p < 4; p++) {
            due(0, "rects", p);
            due(0, "all", p, 707);
            due(0, "by", 707, p);
            due(0, "under", 0, p, 4);
            for (int what = 1; what < 4; what++) due(NONE, "under", 304, p, what);
        }
        due(0, "valueAt", 707);
        due(VOID, "valueAt", 800);
        due(1, "looks");
        due(0, "idle");
        for (int s = 0; s < 4; s++) due(VOID, "element", s, 0);
        due(STATE, "undo");
        due(STATE, "redo");
        due(STATE, "back");
        check.due("NONE", NONE, -1);
        check.due("BAD", BAD, -2);
        check.due("STATE", STATE, -3);
        check.due("FULL", FULL, -4);
        check.due("MIXED", MIXED, -5);
        check.due("VOID", VOID, -2000000000);
    }

    // ---- 2 to 5, 8, 11

    private void requests() {
        on("promise 2, paint");
        due(1, "paint", 0, 3, 1010202);
        shows(0, 0, 0, 0, 0);
        shows(0, 1, 0, 3, 3, 0);
        shows(0, 2, 0, 3, 3, 0);
        shows(1, 1, 0, 0, 0);
        due(1, "paint", 0, 0, 1020102);
        own(0, 1, -1, 3, 0, -1);
        due(1, "paint", 0, NONE, 1010101);
        own(0, 1, -1, -1, 0, -1);
        due(1, "paint", 3, 9, 707);
        due(9, "all", 3, 707);
        bad("paint", 0, a(0, 1, 0), -1, 4, LEAST, MOST);
        bad("paint", 1, a(0, 1, 0), -2, 10, LEAST, MOST);
        bad("paint", 2, a(0, 1, 0), -1, 8, 800, 1000000, 10000, 8000800, 80008, 3030203, 3030302, 99, LEAST, MOST);
        due(4, "count", 3);

        on("promise 3, lines");
        due(1, "lines", 0, 1, 5, 203);
        due(1, "lines", 1, 1, 6, 3);
        shows(1, 2, 5, 5, 5, 5, 5);
        shows(1, 4, 6, 6, 6, 6, 0);
        due(1, "lines", 0, 1, NONE, 202);
        shows(1, 2, 6, 6, 6, 6, 0);
        shows(1, 3, 5, 5, 5, 5, 5);
        due(5, "under", 300, 1, 2);
        due(6, "under", 300, 1, 3);
        due(1, "lines", 1, 1, 0, 7);
        due(0, "under", 7, 1, 3);
        bad("lines", 0, a(0, 0, 1, 0), -1, 2, LEAST, MOST);
        bad("lines", 1, a(0, 0, 1, 0), -1, 4, LEAST, MOST);
        bad("lines", 2, a(0, 0, 1, 0), -2, 10, LEAST, MOST);
        bad("lines", 3, a(0, 0, 1, 0), -1, 8, 808, 201, 99, 9999, LEAST, MOST);
        due(1, "remove", 1, 6);
        due(BAD, "lines", 1, 0, 1, 1);
        due(1, "lines", 0, 0, 1, 1);

        on("promise 4, ground");
        due(1, "ground", 2, 7);
        due(7, "all", 2, 707);
        due(0, "all", 1, 707);
        bad("ground", 0, a(0, 1), -1, 4, LEAST, MOST);
        bad("ground", 1, a(0, 1), -1, 10, LEAST, MOST);

        on("promise 5, value");
        due(1, "value", 203, -999);
        due(-999, "valueAt", 203);
        due(1, "value", 203, 999);
        due(999, "valueAt", 203);
        bad("value", 0, a(0, 1), -1, 8, 800, LEAST, MOST);
        bad("value", 1, a(0, 1), -1000, 1000, LEAST, MOST);
        due(999, "valueAt", 203);

        on("promise 8, copy");
        paintRow(0, 0, 1, 2);
        paintRow(0, 1, 3, -1);
        paintRow(2, 1, 4, -1);
        values(0, 5, 6);
        due(1, "copy", 101, 2020406, 0);
        own(0, 2, -1, -1, 1, 2, 1, 2, 1, -1);
        own(0, 3, -1, -1, 3, -1, 3, -1, 3, -1);
        own(0, 4, -1, -1, 1, 2, 1, 2, 1, -1);
        own(2, 3, -1, -1, 4, -1, 4, -1, 4, -1);
        due(0, "valueAt", 202);
        due(1, "copy", 2, 5000607, 1);
        own(0, 5, 1, 1, 1, 1, 1, 1, 1, 1);
        own(0, 6, 2, 2, 2, 2, 2, 2, 2, 2);
        due(1, "copy", 2, 10003, 0);
        own(0, 0, 1, 1, 2, -1, -1);
        bad("copy", 0, a(0, 0, 0), -1, 8, 800, 10000, LEAST, MOST);
        bad("copy", 1, a(0, 0, 0), -1, 8, 800, 10000, LEAST, MOST);
        bad("copy", 2, a(0, 0, 0), -1, 2, LEAST, MOST);

        on("promise 11, tidy");
        due(1, "ground", 0, 1);
        due(1, "lines", 0, 0, 2, 101);
        due(1, "lines", 1, 0, 3, 101);
        paintRow(0, 0, 1, 1, 2);
        due(1, "paint", 0, 2, 1000102);
        paintRow(0, 2, 1, 3, 3);
        due(1 + 3 + 2, "tidy", 0);
        own(0, 0, -1, 1, 2);
        own(0, 1, -1, -1, -1);
        own(0, 2, -1, -1, 3);
        due(0, "tidy", 0);
        due(0, "tidy", 1);
        bad("tidy", 0, a(0), -1, 4, LEAST, MOST);
        due(13, "count", 3);
    }

    // ---- 6, 7, 9, 10

    private void lineRequests() {
        on("promise 6, insert");
        paintRow(0, 0, 1, 2, -1, 4);
        paintRow(0, 1, 1, 3, -1, -1);
        values(1, 7, 8);
        due(1, "lines", 0, 0, 9, 1);
        due(10, "insert", 0, 1, 2);
        own(0, 0, 1, 2, -1, 4);
        own(0, 1, 1, -1, -1, -1);
        own(0, 2, 1, -1, -1, -1);
        own(0, 3, 1, 3, -1, -1);
        due(NONE, "under", 100, 0, 2);
        due(9, "under", 300, 0, 2);
        due(0, "valueAt", 100);
        due(7, "valueAt", 300);
        due(11, "insert", 0, 0, 1);
        own(0, 0, -1, -1, -1);
        due(12, "insert", 0, 11, 1);
        due(FULL, "insert", 0, 0, 5);
        due(16, "insert", 0, 12, 4);
        due(FULL, "insert", 0, 3, 1);
        due(FULL, "insert", 0, 3, 16);
        bad("insert", 2, a(0, 0, 1), 0, -1, 17, LEAST, MOST);
        bad("insert", 1, a(0, 0, 1), -1, 17, LEAST, MOST);
        bad("insert", 0, a(0, 0, 1), -1, 2, LEAST, MOST);
        on("promise 6, columns");
        due(1, "paint", 1, 5, 107);
        due(1, "lines", 1, 1, 6, 2);
        due(9, "insert", 1, 2, 1);
        own(1, 0, 5, 5, 5, 5, 5, 5, 5, 5, 5);
        own(1, 2, -1, -1, -1);
        due(NONE, "under", 202, 1, 3);
        due(6, "under", 203, 1, 3);
        due(10, "insert", 1, 9, 1);
        own(1, 0, 5, 5, 5, 5, 5, 5, 5, 5, 5, -1);
        due(11, "insert", 1, 0, 1);
        own(1, 0, -1, 5, 5);
        due(8, "count", 0);
        due(BAD, "insert", 1, 12, 1);

        on("promise 7, remove");
        values(0, 1, 2, 3, 4, 5, 6, 7, 8);
        due(1, "lines", 1, 0, 3, 4);
        due(5, "remove", 1, 103);
        due(1, "valueAt", 0);
        due(5, "valueAt", 1);
        due(8, "valueAt", 4);
        due(3, "under", 1, 0, 3);
        due(7, "remove", 0, 0);
        due(0, "valueAt", 0);
        due(STATE, "remove", 0, 6);
        due(STATE, "remove", 1, 4);
        due(1, "remove", 1, 104);
        due(STATE, "remove", 1, 0);
        due(BAD, "remove", 1, 1);
        bad("remove", 0, a(0, 0), -1, 2, LEAST, MOST);
        bad("remove", 1, a(0, 0), -1, 7, 707, 201, LEAST, MOST);

        on("promise 9, sort");
        values(0, 3, 10);
        values(1, 1, 20);
        values(2, 3, 30);
        values(3, 2, 40);
        due(1, "lines", 0, 0, 6, 1);
        due(1, "paint", 2, 4, 1050105);
        due(1, "sort", 3, 0, 0);
        int[] rising = {20, 40, 10, 30};
        for (int r = 0; r < 4; r++) due(rising[r], "valueAt", 100 * r + 1);
        due(6, "under", 0, 0, 2);
        due(NONE, "under", 100, 0, 2);
        due(4, "under", 5, 2, 1);
        due(1, "sort", 3, 0, 1);
        int[] falling = {10, 30, 40, 20};
        for (int r = 0; r < 4; r++) due(falling[r], "valueAt", 100 * r + 1);
        due(1, "sort", 102, 1, 1);
        due(40, "valueAt", 101);
        due(30, "valueAt", 201);
        due(1, "sort", 0, 0, 0);
        bad("sort", 0, a(0, 0, 0), -1, 8, 201, LEAST, MOST);
        bad("sort", 1, a(0, 0, 0), -1, 8, LEAST, MOST);
        bad("sort", 2, a(0, 0, 0), -1, 2, LEAST, MOST);
        on("promise 9, rules stay");
        rule(1, "value > 0", 0, 0, 5, 0);
        due(1, "value", 100, 3);
        due(1, "sort", 1, 0, 1);
        due(0, "ruleOf", 0, 0);
        due(5, "shown", 0, 0);

        on("promise 10, move");
        for (int r = 0; r < 8; r++) due(1, "value", 100 * r, r);
        due(1, "lines", 0, 3, 2, 1);
        due(1, "paint", 1, 8, 2000200);
        rule(1, "1 = 1", 0, 1000100, 10, 0);
        due(1, "move", 0, 102, 4);
        int[] order = {0, 3, 4, 5, 1, 2, 6, 7};
        for (int r = 0; r < 8; r++) due(order[r], "valueAt", 100 * r);
        due(2, "under", 400, 3, 2);
        due(8, "under", 500, 1, 1);
        due(1000100, "ruleOf", 0, 0);
        due(1, "move", 0, 405, 0);
        due(1, "valueAt", 0);
        due(0, "valueAt", 200);
        due(1, "move", 0, 7, 0);
        due(1, "move", 0, 607, 6);
        due(BAD, "move", 0, 607, 7);
        due(BAD, "move", 0, 7, 1);
        due(1, "value", 7, 70);
        due(1, "move", 1, 707, 0);
        due(70, "valueAt", 0);
        bad("move", 0, a(0, 0, 0), -1, 2, LEAST, MOST);
        bad("move", 1, a(0, 0, 0), -1, 8, 201, LEAST, MOST);
        bad("move", 2, a(0, 0, 0), -1, 8, LEAST, MOST);
    }

    // ---- 12 to 14, 24 to 26

    private void rules() {
        on("promise 12, rule");
        values(0, 1, 5, 9);
        rule(1, "value > 4", 0, 707, 7, 0);
        shows(0, 0, 0, 7, 7, 0);
        rule(2, "value = 9", 0, 707, 8, 0);
        shows(0, 0, 0, 7, 8, 0);
        due(4, "by", 2, 0);
        due(5, "by", 1, 0);
        rule(3, "value = 5", 0, 707, 39, 1);
        shows(0, 0, 0, 0, 8, 0);
        shows(3, 0, 0, 9, 0, 0);
        due(0, "count", 6);
        feed("value");
        bad("rule", 0, a(0, 0, 0, 0), -1, 4, LEAST, MOST);
        bad("rule", 1, a(0, 0, 0, 0), -1, 8, 10000, LEAST, MOST);
        bad("rule", 2, a(0, 0, 0, 0), -1, 40, LEAST, MOST);
        bad("rule", 3, a(0, 0, 0, 0), -1, 2, LEAST, MOST);
        due(5, "count", 6);
        due(-105, "rule", 0, 0, 0, 0);
        due(0, "count", 6);
        due(-100, "rule", 0, 0, 0, 0);
        due(3, "count", 2);
        for (int k = 4; k <= 6; k++) rule(k, "1=1", k - 1, 0, 0, 0);
        feed("1=1");
        due(BAD, "rule", 7, 0, 0, 0);
        due(FULL, "rule", 6, 0, 0, 0);
        due(FULL, "rule", 0, 0, 0, 0);
        due(3, "count", 6);
        due(9, "count", 3);

        on("promise 13, drop");
        for (int k = 0; k < 3; k++) rule(k + 1, "1=1", k, k, k, 0);
        due(2, "drop", 1);
        due(0, "ruleOf", 0, 2);
        due(2, "ruleOf", 1, 2);
        bad("drop", 0, a(0), -1, 2, LEAST, MOST);
        due(1, "drop", 1);
        due(0, "drop", 0);
        due(BAD, "drop", 0);
        rule(1, "1=1", 0, 5, 5, 0);
        due(5, "ruleOf", 0, 0);

        on("promise 14, bring");
        for (int k = 0; k < 4; k++) rule(k + 1, "1=1", k, k, k, 0);
        due(1, "bring", 0, 2);
        int[] there = {1, 2, 0, 3};
        for (int k = 0; k < 4; k++) due(there[k], "ruleOf", k, 2);
        due(1, "bring", 3, 0);
        int[] ahead = {3, 1, 2, 0};
        for (int k = 0; k < 4; k++) due(ahead[k], "ruleOf", k, 2);
        due(1, "bring", 1, 1);
        bad("bring", 0, a(0, 0), -1, 4, LEAST, MOST);
        bad("bring", 1, a(0, 0), -1, 4, LEAST, MOST);

        on("promises 24 to 26, holds, ruleOf, idle");
        due(0, "idle");
        values(0, 1, 2, 3);
        rule(1, "value > 1", 0, 7, 14, 1);
        rule(2, "value > 0", 1, 107, 6, 0);
        rule(3, "value = 3", 2, 107, 13, 0);
        due(0, "holds", 0, 0);
        due(1, "holds", 0, 2);
        due(1, "holds", 1, 2);
        due(0, "holds", 0, 102);
        due(1, "holds", 2, 2);
        bad("holds", 0, a(0, 0), -1, 3, LEAST, MOST);
        bad("holds", 1, a(0, 0), -1, 8, 800, LEAST, MOST);
        int[] first = {7, 1, 4, 1, 2, 2}, second = {107, 0, 6, 0, 3, 1}, third = {107, 1, 3, 0, 1, 0};
        for (int what = 0; what < 6; what++) {
            due(first[what], "ruleOf", 0, what);
            due(second[what], "ruleOf", 1, what);
            due(third[what], "ruleOf", 2, what);
        }
        bad("ruleOf", 0, a(0, 0), -1, 3, LEAST, MOST);
        bad("ruleOf", 1, a(0, 0), -1, 6, LEAST, MOST);
        due(4, "idle");
        due(1, "value", 0, 0);
        due(6, "idle");

        on("rules when lines come and go");
        rule(1, "1=1", 0, 2030405, 0, 0);
        due(9, "insert", 0, 5, 1);
        due(2030405, "ruleOf", 0, 0);
        due(10, "insert", 0, 4, 1);
        due(2030505, "ruleOf", 0, 0);
        due(12, "insert", 0, 2, 2);
        due(4030705, "ruleOf", 0, 0);
        due(9, "insert", 1, 3, 1);
        due(4040706, "ruleOf", 0, 0);
        due(10, "insert", 1, 6, 1);
        due(4040707, "ruleOf", 0, 0);
        due(10, "remove", 0, 304);
        due(3040507, "ruleOf", 0, 0);
        due(8, "remove", 0, 506);
        due(3040407, "ruleOf", 0, 0);
        due(9, "remove", 1, 505);
        due(3040406, "ruleOf", 0, 0);
        rule(2, "1=1", 1, 80708, 1, 0);
        due(6, "remove", 1, 406);
        due(1, "count", 2);
        due(50705, "ruleOf", 0, 0);
        due(1, "ruleOf", 0, 2);
    }

    private void conditions() {
        on("promise 12, conditions worked out");
        values(0, 4, 4, 7);
        values(1, -2, 4, 999);
        holds(1, "value=4", 102, 101);
        holds(1, "row * 10 + column = 12", 102, 102);
        holds(1, "left = 4 and above = 7", 102, 102);
        holds(1, "left = 0 and above = 0", 102, 0);
        holds(1, "left = 4", 10001, 1);
        holds(1, "sum = 4+4+7-2+4+999", 102, 0);
        holds(1, "most = 999 and least = -2", 102, 0);
        holds(1, "most = 7 and least = 4 and sum = 15", 2, 0);
        holds(1, "like = 3 and greater = 2", 102, 1);
        holds(1, "like = 1 and greater = 0", 102, 102);
        holds(1, "2 + 3 * 4 = 14 and (2 + 3) * 4 = 20", 0, 0);
        holds(1, "10 - 3 - 2 = 5 and 10 - 3 + 2 = 9", 0, 0);
        holds(1, "- 2 * 3 = 0 - 6 and 5 - - 2 = 7", 0, 0);
        holds(0, "not 1 = 1", 0, 0);
        holds(1, "not not 1 = 1", 0, 0);
        holds(0, "not 1 = 1 and 1 = 2", 0, 0);
        holds(1, "not [1 = 1 and 1 = 2]", 0, 0);
        holds(1, "1 = 1 or 1 = 1 and 1 = 2", 0, 0);
        holds(0, "[1 = 1 or 1 = 1] and 1 = 2", 0, 0);
        holds(0, "1<1 or 1>1", 0, 0);
        holds(1, "9999*9999*21>0", 0, 0);
        holds(0, "9999*9999*22>0", 0, 0);
        holds(0, "9999*9999*22<0", 0, 0);
        holds(0, "not 9999*9999*22>0", 0, 0);
        holds(0, "9999*9999*22 - 9999*9999*22 = 0", 0, 0);
        holds(0, "0 * (9999*9999*22) = 0", 0, 0);
        holds(1, "1=1 or 9999*9999*22>0", 0, 0);
        holds(0, "1=2 or 9999*9999*22>0", 0, 0);
        holds(0, "9999*9999*22>0 or 1=1", 0, 0);
        holds(0, "[9999*9999*22>0 and 1=2] or 1=1", 0, 0);
        holds(1, "not [1=2 and 9999*9999*22>0]", 0, 0);
        holds(0, "not [1=1 and 9999*9999*22>0]", 0, 0);
        holds(1, "1=1 or 1=2 and 9999*9999*22>0 or 9999*9999*22>0", 0, 0);
        String most = "(4096*4096*127+4096*4095+4095)";
        holds(1, most + ">2000*1000*1000", 0, 0);
        holds(0, most + "+1>0", 0, 0);
        holds(1, "-" + most + "-1<0", 0, 0);
        holds(0, "-" + most + "-2<0", 0, 0);
        holds(0, "-(-" + most + "-1)>0", 0, 0);
        holds(1, "-4096*4096*128<0", 0, 0);
        holds(0, "0-4096*4096*128<0", 0, 0);
        edgesOfSheet();
        faults();
    }

    private void edgesOfSheet() {
        on("promise 12, beside and over the edges of the greatest sheet");
        due(16, "insert", 0, 8, 8);
        due(16, "insert", 1, 8, 8);
        due(1, "value", 15, 5);
        due(1, "value", 1515, 6);
        holds(1, "left = 0 and above = 0", 1515, 100);
        holds(1, "left = 0 and above = 0", 1515, 0);
        holds(1, "above = 5", 1515, 115);
        holds(1, "sum = 11 and most = 6 and row * column = 225", 1515, 1515);
    }

    private void faults() {
        on("promise 12, faults");
        fault(0, "");
        fault(3, "   ");
        fault(5, "value");
        fault(6, "value ");
        fault(7, "value =");
        fault(9, "value =  ");
        fault(7, "value ==3");
        fault(8, "value = and 3=3");
        fault(10, "value = 3 4");
        fault(11, "value = 3  values");
        fault(0, "values = 3");
        fault(0, "paint = 3");
        fault(0, "Value = 3");
        fault(4, "1 = A");
        fault(4, "1 = \t2");
        fault(4, "1 = 12345");
        fault(4, "1 = 00001");
        fault(1, "1");
        fault(2, "1 2 = 3");
        fault(6, "1 = 1 = 1");
        fault(3, "(1 = 1)");
        fault(7, "[(1 + 2]");
        fault(2, "[1)=2]");
        fault(8, "[1=1 or ]");
        fault(4, "[1=1");
        fault(4, "1=1 ]");
        fault(4, "1=1 not 1=1");
        fault(3, "1+ + 2=3");
        fault(3, "1=1{");
        fault(3, "1=1\u00e9");
        fault(0, "{1=1");
        fault(8, "[[[[1=1 [");
        fault(4, "[[[[[1=1");
        fault(16, "not not not not not 1=1");
        fault(12, "not [ not ( ( 1 ) ) = 2 ]");
        fault(12, "not [ not ( - 1 ) = 2 ]");
        fault(4, "-----1=1");
        fault(4, "((((-1))))=1");
        fault(4, "----(1)=1");
        rule(1, "----1=1 and ((((1))))=1 and not not not not 1=1 and [[[[1=1]]]]", 0, 0, 0, 0);
        rule(2, "not - - - 1 = 1 and not not [ ( 1 ) = - 1 ]", 0, 0, 0, 0);
        rule(3, "not [ not - 1 = 2 ]", 0, 0, 0, 0);
    }

    // ---- 15, 16

    private void pasteAndRun() {
        on("promise 15, paste");
        due(-11, "paste", 0, 0, 1, 0, 0);
        due(1, "row", 0, 60);
        puts(0, 0, 0, 0, 1, 2, 4);
        puts(0, 5, 1, 1, 1, 3, 5);
        due(2, "paste", 0, 0, 2, 1, 203);
        own(1, 2, -1, -1, -1, 4, 4, 4, -1);
        own(1, 3, -1, -1, -1, 4, 5, 5, 5);
        due(0, "undo");
        due(0, "rects", 1);
        due(0, "redo");
        due(BAD, "paste", 0, 0, 2, 1, 205);
        due(1, "paste", 0, 0, 1, 1, 605);
        due(BAD, "paste", 0, 0, 1, 1, 705);
        due(12, "paste", 0, 0, 12, 2, 0);
        due(-13, "paste", 0, 1, 12, 2, 0);
        due(-13, "paste", 0, -1, 1, 2, 0);
        due(-13, "paste", 0, MOST, 1, 2, 0);
        due(-13, "paste", 0, LEAST, 1, 2, 0);
        due(-13, "paste", 0, 56, 1, 2, 0);
        due(1, "paste", 0, 55, 1, 2, 0);
        bad("paste", 0, a(0, 0, 1, 0, 0), -1, 4, LEAST, MOST);
        bad("paste", 2, a(0, 0, 1, 0, 0), 0, -1, 13, LEAST, MOST);
        bad("paste", 3, a(0, 0, 1, 0, 0), -1, 4, LEAST, MOST);
        bad("paste", 4, a(0, 0, 1, 0, 0), -1, 8, 800, LEAST, MOST);
        due(BAD, "paste", 1, 0, 13, 0, 0);
        due(-11, "paste", 1, -1, 1, 0, 0);
        puts(0, 5, 1, 1, 1, 3, 10);
        due(BAD, "paste", 0, 0, 2, 3, 0);
        puts(0, 5, 1, 1, 1, 3, -1);
        due(BAD, "paste", 0, 0, 2, 3, 0);
        puts(0, 5, 1, 1, 0, 3, 1);
        due(BAD, "paste", 0, 0, 2, 3, 0);
        puts(0, 5, 1, 3, 1, 2, 1);
        due(BAD, "paste", 0, 0, 2, 3, 0);
        puts(0, 5, -1, 0, 0, 0, 6);
        due(BAD, "paste", 0, 0, 2, 3, 0);
        due(0, "rects", 3);
        due(2, "paste", 0, 0, 2, 3, 100);
        own(3, 0, 6, -1);
        own(3, 1, 6, 4, 4);
        due(1, "row", 1, 4);
        due(-13, "paste", 1, 0, 1, 0, 0);

        on("promise 16, run");
        text(0, "paint face 3 b1:c2; repeat 2 { shift 1 0; paint size 4 a0; }");
        due(6, "run", 0);
        own(0, 1, -1, 3, 3, -1);
        own(1, 1, 4, -1);
        own(1, 2, 4, -1);
        own(1, 0, -1);
        due(1, "count", 3);
        due(0, "undo");
        due(0, "rects", 0);
        text(1, "paint face 3 a0; paint face 1 i0; paint face 4 a1;");
        due(-102, "run", 1);
        due(0, "rects", 0);
        due(0, "count", 3);
        due(1, "count", 4);
        text(2, "");
        due(0, "run", 2);
        due(1, "count", 3);
        due(0, "count", 4);
        text(3, "repeat 59 { tidy face; } ");
        due(60, "run", 3);
        bad("run", 0, a(0), -1, 4, LEAST, MOST);

        on("promise 16, lines of programs");
        text(0, "rows face 1 0 to 1; columns size 2 3 to 4; shift 2 1; rows ink 3 0 to 0; columns fill 4 0 to 0; "
                + "rows face none 0 to 1; insert rows 0 by 1; remove columns 5 to 6; shift -2 -1; tidy ink;");
        due(10, "run", 0);
        due(9, "count", 0);
        due(6, "count", 1);
        due(1, "under", 105, 0, 2);
        due(2, "under", 104, 1, 3);
        due(NONE, "under", 200, 2, 2);
        due(3, "under", 300, 2, 2);
        due(4, "under", 101, 3, 3);
        text(1, "paint ink 10 a0;");
        due(-101, "run", 1);
        text(2, "shift -1 0; paint ink 1 a0;");
        due(-102, "run", 2);
        text(3, "turn a0:b0 to a3:b4; repeat 20 { repeat 2 {} } repeat 0 { paint ink 99 a0; } repeat 50 {} tidy face;");
        due(1 + 21 + 1 + 1 + 1, "run", 3);
        on("promise 16, too many steps");
        text(0, "repeat 60 { tidy face; }");
        due(-160, "run", 0);
        text(1, "repeat 9 { insert columns 0 by 1; }");
        due(-110, "run", 1);
        due(8, "count", 1);
        text(2, "remove rows 0 to 7;");
        due(-101, "run", 2);
        text(3, "repeat 99 { repeat 99 { } }");
        due(-160, "run", 3);
        due(0, "count", 3);
        on("promise 16, refused lines");
        text(0, "paint face 1 b0:a0;");
        text(1, "copy a0:b0 to p0;");
        text(2, "insert rows 0 by 0;");
        text(3, "rows face 1 5 to 4;");
        for (int k = 0; k < 4; k++) due(-101, "run", k);
        on("promise 16, origins");
        text(0, "paint face 1 a0:b0; shift 3 2; copy a0 to a1; shift -3 -2; turn a0:b0 to c5:d6;");
        due(5, "run", 0);
        own(0, 5, -1, -1, 1, 1);
        text(1, "paint ink 7 p0;");
        due(-101, "run", 1);
        due(16, "insert", 1, 8, 8);
        due(1, "run", 1);
        due(7, "shown", 15, 2);
    }

    // ---- 17 to 19

    private void history() {
        on("promises 17 and 18, undo, redo");
        due(STATE, "undo");
        for (int k = 0; k < 35; k++) due(1, "value", 0, k);
        due(30, "count", 3);
        for (int k = 29; k >= 0; k--) {
            due(k, "undo");
            due(k + 4, "valueAt", 0);
        }
        due(STATE, "undo");
        due(30, "count", 4);
        due(29, "redo");
        due(5, "valueAt", 0);
        due(BAD, "value", 0, 1000);
        due(28, "redo");
        due(1, "value", 0, 100);
        due(STATE, "redo");
        due(3, "count", 3);
        due(2, "undo");
        due(6, "valueAt", 0);
        due(0, "redo");
        due(100, "valueAt", 0);

        on("promise 17, all of a sheet comes back");
        rule(1, "value = 0", 0, 3, 39, 1);
        due(1, "lines", 1, 2, 5, 3);
        due(1, "ground", 2, 6);
        due(7, "remove", 0, 0);
        due(0, "count", 2);
        for (int k = 3; k >= 0; k--) due(k, "undo");
        due(0, "count", 2);
        due(0, "all", 2, 707);
        due(3, "redo");
        due(9, "all", 3, 3);
        for (int k = 2; k >= 0; k--) due(k, "redo");
        due(7, "count", 0);
        due(5, "shown", 3, 2);

        on("promise 17, it goes by what was told then");
        due(1, "row", 0, 5);
        puts(0, 0, 0, 0, 0, 0, 8);
        due(1, "paste", 0, 0, 1, 0, 0);
        due(1, "put", 0, 4, 9);
        feed("1=1");
        due(1, "rule", 0, 0, 11, 0);
        feed("1=2");
        due(1, "undo");
        due(3, "count", 6);
        due(0, "undo");
        due(9, "element", 0, 4);
        due(1, "redo");
        due(8, "shown", 0, 0);
        due(0, "redo");
        due(1, "shown", 0, 1);

        on("promise 19, before");
        due(1, "paint", 0, 3, 0);
        due(1, "value", 0, 5);
        rule(1, "value = 5", 0, 0, 4, 0);
        due(9, "insert", 0, 0, 1);
        int[] first = {0, 3, 3, 4, 0};
        for (int k = 0; k <= 4; k++) due(first[k], "before", k, 0, 0);
        due(4, "before", 4, 100, 0);
        due(NONE, "before", 3, 800, 0);
        due(0, "before", 4, 800, 0);
        due(NONE, "before", 4, 1515, 0);
        due(3, "undo");
        due(BAD, "before", 4, 0, 0);
        due(4, "before", 3, 0, 0);
        rule(2, "sum = 5 and most = 5 and least = 5 and like = 1", 0, 0, 7, 0);
        due(7, "shown", 0, 0);
        due(1, "value", 0, 6);
        due(3, "shown", 0, 0);
        due(7, "before", 4, 0, 0);
        due(3, "before", 5, 0, 0);
        bad("before", 0, a(0, 0, 0), -1, 6, LEAST, MOST);
        bad("before", 1, a(0, 0, 0), -1, 16, 1600, LEAST, MOST);
        bad("before", 2, a(0, 0, 0), -1, 4, LEAST, MOST);
    }

    // ---- 20 to 23

    private void cells() {
        on("promises 20 to 22, shown, under, by");
        due(1, "ground", 0, 1);
        due(1, "lines", 1, 0, 2, 102);
        due(1, "lines", 0, 0, 3, 101);
        due(1, "paint", 0, 4, 2000202);
        due(1, "paint", 0, 4, 1000100);
        rule(1, "1=1", 0, 2020202, 5, 0);
        shows(0, 0, 1, 2, 2, 1);
        shows(0, 1, 4, 3, 3, 3);
        shows(0, 2, 4, 4, 5, 1);
        int[] by0 = {0, 1, 1, 0}, by1 = {3, 2, 2, 2}, by2 = {3, 3, 4, 0};
        for (int c = 0; c < 4; c++) {
            due(by0[c], "by", c, 0);
            due(by1[c], "by", 100 + c, 0);
            due(by2[c], "by", 200 + c, 0);
        }
        int[] plain = {4, 4, -1, 2, 2};
        for (int what = 0; what < 5; what++) due(plain[what], "under", 202, 0, what);
        int[] rowAhead = {3, -1, 3, 2, 3};
        for (int what = 0; what < 5; what++) due(rowAhead[what], "under", 101, 0, what);
        for (String name : new String[] {"shown", "by"}) {
            bad(name, 0, a(0, 0), -1, 8, 800, LEAST, MOST);
            bad(name, 1, a(0, 0), -1, 4, LEAST, MOST);
        }
        bad("under", 0, a(0, 0, 0), -1, 8, 800, LEAST, MOST);
        bad("under", 1, a(0, 0, 0), -1, 4, LEAST, MOST);
        bad("under", 2, a(0, 0, 0), -1, 5, LEAST, MOST);

        on("promise 20, rules that stop");
        rule(1, "1=1", 0, 1, 11, 1);
        rule(2, "1=1", 1, 107, 22, 0);
        rule(3, "1=1", 2, 107, 23, 0);
        shows(2, 0, 0, 0, 2, 2);
        shows(1, 0, 1, 1, 0, 0);
        due(4, "by", 0, 1);
        due(0, "by", 0, 2);
        due(5, "by", 2, 2);

        on("promise 23, valueAt");
        due(1, "value", 706, -5);
        due(-5, "valueAt", 706);
        for (int cell : a(-1, 8, 800, 99, LEAST, MOST)) due(VOID, "valueAt", cell);
    }

    // ---- 27 to 31

    private void covers() {
        on("promises 27 to 29, rects, rect, lies");
        due(1, "paint", 1, 2, 10304);
        due(1, "paint", 1, 2, 1000101);
        due(1, "paint", 1, 3, 2040204);
        due(5, "rects", 1);
        due(0, "rects", 0);
        int[] rects = {10004, 1000104, 2010203, 2040204, 3010304};
        int[] numbers = {2, 2, 2, 3, 2};
        for (int k = 0; k < 5; k++) {
            due(rects[k], "rect", 1, k, 0);
            due(numbers[k], "rect", 1, k, 1);
        }
        due(NONE, "rect", 1, 5, 0);
        due(NONE, "rect", 1, MOST, 1);
        due(BAD, "rect", 1, 5, 2);
        bad("rects", 0, a(0), -1, 4, LEAST, MOST);
        bad("rect", 0, a(0, 0, 0), -1, 4, LEAST, MOST);
        bad("rect", 1, a(0, 0, 0), -1, LEAST);
        bad("rect", 2, a(0, 0, 0), -1, 2, LEAST, MOST);
        int[] row2 = {-1, 2, 2, 2, 3, -1};
        for (int c = 0; c < 6; c++) due(row2[c], "lies", 200 + c, 1);
        due(1, "lies", 100, 1);
        bad("lies", 0, a(0, 0), -1, 8, 800, LEAST, MOST);
        bad("lies", 1, a(0, 0), -1, 4, LEAST, MOST);
        on("promise 27, joined and cut");
        due(1, "paint", 0, 1, 102);
        due(1, "paint", 0, 1, 2000302);
        due(1, "rects", 0);
        due(1, "paint", 0, NONE, 1010101);
        due(4, "rects", 0);
        due(1, "paint", 0, 1, 1010101);
        due(1, "rects", 0);
        due(302, "rect", 0, 0, 0);

        on("promise 30, would");
        due(1, "paint", 0, 1, 202);
        due(4, "would", 0, NONE, 1010101);
        due(5, "would", 0, 2, 1010101);
        due(1, "would", 0, 1, 1010101);
        due(1, "would", 1, 1, 0);
        due(1, "rects", 0);
        due(1, "count", 3);
        bad("would", 0, a(0, 1, 0), -1, 4, LEAST, MOST);
        bad("would", 1, a(0, 1, 0), -2, 10, LEAST, MOST);
        bad("would", 2, a(0, 1, 0), -1, 8, 800, 10000, LEAST, MOST);

        on("promise 31, drawn");
        due(0, "drawn", 77, 0, 0, 0);
        due(0, "drawn", 77, 0, 0, 1);
        due(5, "drawn", 5, 10, 0, 0);
        due(20, "drawn", 5, 10, 0, 1);
        due(15, "drawn", -7, 30, 1, 0);
        due(1, "paint", 0, 1, 707);
        due(1, "drawn", 77, 0, 0, 0);
        due(64, "drawn", 77, 0, 0, 1);
        due(1, "rects", 0);
        bad("drawn", 1, a(0, 0, 0, 0), -1, 31, LEAST, MOST);
        bad("drawn", 2, a(0, 0, 0, 0), -1, 4, LEAST, MOST);
        bad("drawn", 3, a(0, 0, 0, 0), -1, 2, LEAST, MOST);
        for (int seed : a(LEAST, MOST, -1)) check.so("drawn of any seed", x.drawn(seed, 30, 0, 1) >= 0);
    }

    // ---- 32 to 39

    private void alike() {
        on("promises 32 to 34, all, many, greatest");
        due(1, "paint", 0, 3, 1010203);
        due(3, "all", 0, 1010203);
        due(MIXED, "all", 0, 1010303);
        due(0, "all", 1, 1010303);
        bad("all", 0, a(0, 0), -1, 4, LEAST, MOST);
        bad("all", 1, a(0, 0), -1, 8, 800, 10000, LEAST, MOST);
        due(6, "many", 0, 3, 707);
        due(3, "many", 0, 3, 107);
        due(58, "many", 0, 0, 707);
        due(0, "many", 0, 9, 707);
        bad("many", 0, a(0, 0, 0), -1, 4, LEAST, MOST);
        bad("many", 1, a(0, 0, 0), -1, 10, LEAST, MOST);
        bad("many", 2, a(0, 0, 0), -1, 8, 800, 10000, LEAST, MOST);
        due(6, "greatest", 0, 3, 0);
        due(1010203, "greatest", 0, 3, 1);
        due(40, "greatest", 0, 0, 0);
        due(3000707, "greatest", 0, 0, 1);
        due(0, "greatest", 0, 5, 0);
        due(NONE, "greatest", 0, 5, 1);
        due(707, "greatest", 1, 0, 1);
        due(64, "greatest", 1, 0, 0);
        bad("greatest", 0, a(0, 0, 0), -1, 4, LEAST, MOST);
        bad("greatest", 1, a(0, 0, 0), -1, 10, LEAST, MOST);
        bad("greatest", 2, a(0, 0, 0), -1, 2, LEAST, MOST);
        on("promise 34, the least number of like ones");
        due(1, "paint", 0, 1, 2000203);
        due(1, "paint", 0, 1, 1020104);
        due(1, "paint", 0, 1, 4000401);
        due(1, "paint", 0, 1, 4010501);
        due(4, "greatest", 0, 1, 0);
        due(1020203, "greatest", 0, 1, 1);
        due(1, "paint", 0, 1, 30103);
        due(1020203, "greatest", 0, 1, 1);
        due(1, "paint", 0, 1, 40004);
        due(30104, "greatest", 0, 1, 1);

        on("promises 35 to 37, alike, looks, stripes");
        due(1, "paint", 0, 3, 1);
        due(1, "paint", 1, 3, 10002);
        due(1, "paint", 3, 0, 3);
        due(1, "alike", 0);
        due(1, "alike", 1);
        due(61, "alike", 3);
        due(61, "alike", 707);
        due(4, "looks");
        due(4, "stripes", 0);
        due(1, "stripes", 1);
        due(1, "paint", 0, 3, 70007);
        due(2, "alike", 0);
        due(5, "stripes", 0);
        due(4, "looks");
        bad("alike", 0, a(0), -1, 8, 800, LEAST, MOST);
        bad("stripes", 0, a(0), -1, 8, LEAST, MOST);

        on("promise 38, strokes");
        due(0, "strokes", 0, 0);
        paintRow(0, 0, 1, 2, 1, 3, 1, 2, 1, 1);
        due(4, "strokes", 0, 0);
        paintRow(0, 1, 1, -1, 1, -1, 1, -1, 1, -1);
        due(4, "strokes", 1, 0);
        paintRow(0, 2, 1, 2, -1, 2, 1);
        due(3, "strokes", 2, 0);
        paintRow(0, 3, -1, 1, 2, 3, 2, 1, -1, 5);
        due(4, "strokes", 3, 0);
        paintRow(0, 4, 1, 2, 3, 4, 5, 6, 7, 8);
        due(8, "strokes", 4, 0);
        due(0, "strokes", 0, 1);
        bad("strokes", 0, a(0, 0), -1, 8, LEAST, MOST);
        bad("strokes", 1, a(0, 0), -1, 4, LEAST, MOST);

        on("promise 39, needless");
        paintRow(0, 0, 0, 1, 0, -1);
        due(2, "needless", 0);
        due(1, "lines", 0, 0, 1, 0);
        due(1, "needless", 0);
        due(0, "needless", 1);
        own(0, 0, 0, 1, 0, -1);
        bad("needless", 0, a(0), -1, 4, LEAST, MOST);
    }

    // ---- 40 to 43

    private void shelves() {
        on("promises 40 to 42, row, put, element");
        due(1, "row", 3, 60);
        due(1, "put", 3, 59, 7);
        due(7, "element", 3, 59);
        due(0, "element", 3, 58);
        due(1, "row", 3, 60);
        due(0, "element", 3, 59);
        due(1, "put", 3, 0, 65535);
        due(-1, "element", 3, 0);
        due(1, "put", 3, 1, 32768);
        due(-32768, "element", 3, 1);
        due(1, "put", 3, 2, -65537);
        due(-1, "element", 3, 2);
        due(1, "row", 3, 2);
        due(VOID, "element", 3, 2);
        due(-13, "put", 3, 2, 1);
        due(-13, "put", 3, -1, 1);
        due(-11, "put", 2, -1, 1);
        due(1, "row", 2, 0);
        due(-13, "put", 2, 0, 1);
        due(VOID, "element", 2, 0);
        due(VOID, "element", 1, 0);
        due(-14, "row", 0, -1);
        due(-14, "row", 0, LEAST);
        due(-11, "put", 0, 0, 0);
        bad("row", 0, a(0, 1), -1, 4, LEAST, MOST);
        bad("row", 1, a(0, 1), 61, MOST);
        due(BAD, "row", 4, -1);
        bad("put", 0, a(0, 0, 0), -1, 4, LEAST, MOST);
        for (int v : a(-1, 4, LEAST, MOST)) {
            due(VOID, "element", v, 0);
            due(VOID, "element", 3, v == -1 ? v : v < 0 ? LEAST : MOST);
        }
        due(0, "count", 3);

        on("promise 43, clip");
        due(-11, "clip", 0, 0, 0, 0);
        due(1, "row", 0, 17);
        due(1, "paint", 0, 5, 203);
        due(1, "paint", 0, 6, 2020405);
        due(3, "clip", 0, 1, 0, 1010302);
        int[] fives = {0, 0, 0, 0, 1, 5, 1, 0, 1, 0, 5, 1, 1, 2, 1, 6, 0};
        for (int i = 0; i < fives.length; i++) due(fives[i], "element", 0, i);
        due(-13, "clip", 0, 3, 0, 1010302);
        due(-13, "clip", 0, -1, 0, 1010302);
        due(-13, "clip", 0, MOST, 0, 1010302);
        due(-13, "clip", 0, LEAST, 0, 1010302);
        for (int i = 0; i < fives.length; i++) due(fives[i], "element", 0, i);
        due(0, "clip", 0, 17, 1, 707);
        due(0, "clip", 0, 0, 1, 707);
        due(-13, "clip", 0, 18, 1, 707);
        due(-13, "clip", 0, -1, 1, 707);
        bad("clip", 0, a(0, 0, 0, 0), -1, 4, LEAST, MOST);
        bad("clip", 2, a(0, 0, 0, 0), -1, 4, LEAST, MOST);
        bad("clip", 3, a(0, 0, 0, 0), -1, 8, 800, 10000, LEAST, MOST);
        due(BAD, "clip", 1, 0, 4, 0);
        due(3, "paste", 0, 1, 3, 2, 400);
        own(2, 4, 5, 5, -1);
        own(2, 5, 5, 6, -1);
        own(2, 6, -1, 6, -1);
    }

    // ---- 44 to 46

    private void programs() {
        on("promise 44, feed");
        due(1, "feed", 1, '1');
        due(3, "feed", 2, '=' | '1' << 8 | '~' << 16);
        due(1, "rule", 0, 0, 0, 0);
        due(4, "feed", 4, 0x313d3120);
        due(7, "feed", 3, 0xff202020);
        due(2, "rule", 0, 0, 0, 0);
        for (int k = 1; k <= 50; k++) due(4 * k, "feed", 4, 0x20202020);
        due(FULL, "feed", 1, 0);
        due(BAD, "feed", 5, 0);
        due(-300, "rule", 0, 0, 0, 0);
        for (int k = 1; k <= 49; k++) due(4 * k, "feed", 4, 0x20202020);
        due(198, "feed", 2, 0x20202020);
        due(FULL, "feed", 3, 0);
        due(200, "feed", 2, 0x20202020);
        bad("feed", 0, a(1, 0), 0, -1, 5, LEAST, MOST);

        on("promise 45, text");
        String[] faults = {"5 paint", "6 paint faces 3 b2;", "6 paint hue 3 b2;", "11 paint face a0;",
            "11 paint face 123 a0;", "13 paint face 1 q0;", "13 paint face 1 ab0;", "14 paint face 1 a;",
            "14 paint face 1 a123;", "17 paint face 1 a12:3;", "17 paint face 1 a12 5;", "10 rows face to 1;",
            "14 rows face 1 0 by 1;", "7 insert face 1 by 1;", "14 insert rows 1 to 1;", "14 remove rows 1 by 1;",
            "10 copy a0 : to b0;", "8 copy a0 by b0;", "5 tidy ;", "9 tidy face", "8 shift - - 1 1;", "10 shift 1 2 3;",
            "9 repeat 3 paint face 1 a0;", "7 repeat {};", "11 repeat 2 {};", "10 repeat 2 {", "0 }", "0 ;", "0 Paint",
            "10 tidy face;$", "10 tidy face;value", "7 repeat 100 {}", "10 repeat 1 {a{}}", "11 paint face -1 a0;"};
        for (String fault : faults) {
            int blank = fault.indexOf(' ');
            programFault(Integer.parseInt(fault.substring(0, blank)), fault.substring(blank + 1));
        }
        text(-100 - 44, "repeat 1{repeat 1{repeat 1{repeat 1{repeat 1{}}}}}");
        on("promise 45, room for four");
        text(0, " repeat 1{repeat 1{repeat 1{repeat 1{}}repeat 2{}}}tidy fill;shift-1 2;paint ink none p15:p15;");
        text(1, "");
        text(2, "   ");
        text(3, "tidy face;");
        feed("tidy");
        due(FULL, "text");
        due(4, "count", 6);
        due(4, "count", 5);

        on("promise 46, tests");
        due(BAD, "tests", 0, 0);
        due(1, "paint", 0, 1, 0);
        text(0, "paint size 2 b1; insert rows 1 by 2; insert columns 8 by 1; paint size 3 i0;");
        int[] answers = {4, 3, 1009, 4};
        for (int what = 0; what < 4; what++) due(answers[what], "tests", 0, what);
        text(1, "paint size 2 b1; remove rows 0 to 7;");
        int[] broken = {-102, 1, 808, 2};
        for (int what = 0; what < 4; what++) due(broken[what], "tests", 1, what);
        due(1, "count", 3);
        due(1, "rects", 0);
        due(0, "rects", 1);
        due(8, "count", 0);
        bad("tests", 0, a(0, 0), -1, 2, 4, LEAST, MOST);
        bad("tests", 1, a(0, 0), -1, 4, LEAST, MOST);
        due(2, "looks");
    }

    // ---- 47 to 50

    private void image() {
        on("promises 47 to 49, image, back, differs");
        due(STATE, "differs");
        due(STATE, "back");
        due(1, "paint", 0, 3, 1);
        due(1, "value", 0, 4);
        rule(1, "value = 4", 0, 7, 15, 0);
        due(1, "image");
        due(0, "differs");
        due(1, "value", 1, 4);
        due(1, "differs");
        due(1, "paint", 1, 5, 1);
        due(1, "differs");
        due(1, "lines", 0, 2, 1, 707);
        due(9, "differs");
        due(1, "row", 0, 3);
        feed("tidy");
        due(9, "insert", 1, 8, 1);
        due(NONE, "differs");
        due(8, "remove", 1, 808);
        due(9, "differs");
        due(9, "insert", 0, 0, 1);
        due(NONE, "differs");
        due(8, "undo");
        due(1, "back");
        due(0, "count", 3);
        due(0, "count", 4);
        due(STATE, "undo");
        due(STATE, "redo");
        due(0, "differs");
        due(0, "valueAt", 1);
        due(5, "shown", 0, 1);
        due(3, "shown", 1, 0);
        due(1, "count", 2);
        due(4, "count", 6);
        due(0, "element", 0, 2);
        due(0, "drop", 0);
        due(1, "differs");
        due(1, "image");
        due(0, "differs");
        due(1, "back");
        due(0, "count", 2);
        due(1, "back");

        on("promise 50, count");
        due(9, "insert", 0, 0, 1);
        due(7, "remove", 1, 0);
        rule(1, "1=1", 0, 0, 0, 0);
        due(2, "undo");
        text(0, "");
        feed("abc");
        int[] counts = {9, 7, 0, 2, 1, 1, 3};
        for (int what = 0; what < 7; what++) due(counts[what], "count", what);
        bad("count", 0, a(0), -1, 7, LEAST, MOST);
    }
}

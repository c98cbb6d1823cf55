/** Calls on one object at a time, each with the answer that is due: what the tests of promises are written in. */
abstract class Script {
    static final int NONE = FewRectangles.NONE, BAD = FewRectangles.BAD, STATE = FewRectangles.STATE;
    static final int FULL = FewRectangles.FULL, MIXED = FewRectangles.MIXED, VOID = FewRectangles.VOID;
    static final int NOTHING_THERE = -11, NO_PLACE = -13, NO_SIZE = -14;
    static final int LEAST = Integer.MIN_VALUE, MOST = Integer.MAX_VALUE;
    private static final int MOST_CALLS = 512;

    final Check check;
    FewRectangles x;
    String promise;
    private int calls;

    Script(String name) {
        check = new Check(name);
    }

    /** A new object for what the name tells. */
    final void on(String name) {
        x = new FewRectangles();
        promise = name;
        calls = 0;
    }

    final void due(int want, String name, int... a) {
        check.due(promise + ": " + Face.told(name, a), Face.call(x, name, a), want);
        count(1);
    }

    /** What an object answers behind its 512th call is free: a test that asks it is wrong itself. */
    private void count(int n) {
        calls += n;
        if (calls > MOST_CALLS) throw new IllegalStateException(promise + ": too many calls on one object");
    }

    /** Makes a new object's sheet as high and as wide as told, at its end. */
    final void sized(int high, int wide) {
        int[] size = {high, wide};
        for (int way = 0; way < 2; way++) {
            if (size[way] > 8) due(size[way], "insert", way, 8, size[way] - 8);
            if (size[way] < 8) due(size[way], "remove", way, 100 * size[way] + 7);
        }
    }

    final void feed(String text) {
        if (text.isEmpty()) return;
        Face.feed(x, text);
        count((text.length() + 3) / 4);
    }

    final void rule(int want, String condition, int rank, int rect, int pv, int stops) {
        feed(condition);
        due(want, "rule", rank, rect, pv, stops);
    }

    final void text(int want, String program) {
        feed(program);
        due(want, "text");
    }

    /** The place of a condition's first fault; the tape is empty then. */
    final void fault(int place, String condition) {
        feed(condition);
        check.due(promise + ": fault of '" + condition + "'", x.rule(0, 0, 0, 0), -100 - place);
        count(1);
        due(0, "count", 6);
    }

    final void programFault(int place, String program) {
        feed(program);
        check.due(promise + ": fault of '" + program + "'", x.text(), -100 - place);
        count(1);
        due(0, "count", 6);
    }

    /** Whether a rule of the condition holds at a cell; the rule is there for this one question. */
    final void holds(int want, String condition, int rect, int cell) {
        rule(1, condition, 0, rect, 0, 0);
        check.due(promise + ": " + condition, x.holds(0, cell), want);
        count(1);
        due(0, "drop", 0);
    }

    final void values(int row, int... values) {
        for (int c = 0; c < values.length; c++) due(1, "value", 100 * row + c, values[c]);
    }

    final void valuesAre(int row, int... values) {
        for (int c = 0; c < values.length; c++) due(values[c], "valueAt", 100 * row + c);
    }

    final void shows(int property, int row, int... numbers) {
        for (int c = 0; c < numbers.length; c++) due(numbers[c], "shown", 100 * row + c, property);
    }

    final void own(int property, int row, int... numbers) {
        for (int c = 0; c < numbers.length; c++) due(numbers[c], "under", 100 * row + c, property, 1);
    }

    final void paintRow(int property, int row, int... numbers) {
        for (int c = 0; c < numbers.length; c++) due(1, "paint", property, numbers[c], 1000100 * row + 10001 * c);
    }

    /** RECTS of a cover, in their order, and no more of them. */
    final void cover(int property, int... rects) {
        due(rects.length, "rects", property);
        for (int k = 0; k < rects.length; k++) due(rects[k], "rect", property, k, 0);
        due(NONE, "rect", property, rects.length, 0);
    }

    final void elements(int shelf, int... elements) {
        for (int i = 0; i < elements.length; i++) due(elements[i], "element", shelf, i);
    }

    /** Elements of a row from a place on. */
    final void puts(int shelf, int i, int... elements) {
        for (int k = 0; k < elements.length; k++) due(1, "put", shelf, i + k, elements[k]);
    }

    /** Wrong numbers for one argument of a call that is good otherwise. */
    final void bad(String name, int place, int[] good, int... wrong) {
        for (int v : wrong) {
            int[] a = good.clone();
            a[place] = v;
            due(BAD, name, a);
        }
    }

    static int[] a(int... a) {
        return a;
    }
}

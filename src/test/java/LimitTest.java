import java.util.ArrayList;
import java.util.List;

/** Calls that ask for the most, or for nothing sensible: none may throw, and each has an answer. */
final class LimitTest {
    private static final int[] EDGES = {Integer.MIN_VALUE, Integer.MAX_VALUE, -1, 0, 1, 2, 3, 7, 8, 15, 16, 60, 61, 99, 100,
        700, 707, 1515, 1616, 2147483600, 15151515, 7070707, 15001515, -100, -65536, 65536};
    private final Check check = new Check("LimitTest");
    private long seed = 5;

    public static void main(String[] args) {
        LimitTest test = new LimitTest();
        test.wildCalls();
        test.greatSheet();
        test.deepTexts();
        test.refusalsChangeNothing();
        test.check.end();
    }

    private int rnd(int n) {
        seed = seed * 6364136223846793005L + 1442695040888963407L;
        return (int) ((seed >>> 33) % n);
    }

    private int wild() {
        return rnd(3) == 0 ? (int) (seed >>> 13) : EDGES[rnd(EDGES.length)];
    }

    private void wildCalls() {
        List<String> names = new ArrayList<>(Face.CALLS.keySet());
        for (int run = 0; run < 300; run++) {
            FewRectangles x = new FewRectangles();
            if (run % 3 == 1) x.insert(0, 4, 8);
            if (run % 3 == 2) x.remove(1, 106);
            for (int k = 0; k < 510; k++) {
                String name = names.get(rnd(names.size()));
                int[] a = new int[Face.CALLS.get(name)];
                for (int i = 0; i < a.length; i++) a[i] = wild();
                int answer = Face.call(x, name, a);
                check.so(Face.told(name, a) + " answers what an answer can be", mayAnswer(name, answer));
            }
        }
    }

    private static boolean mayAnswer(String name, int answer) {
        if (name.equals("valueAt") || name.equals("element")) return answer == FewRectangles.VOID || answer == (short) answer;
        return answer >= -300 && answer <= 15151515;
    }

    /** 16 by 16 cells, six rules that ask for everything, all of the history, and programs of 60 steps. */
    private void greatSheet() {
        FewRectangles x = new FewRectangles();
        x.insert(0, 0, 8);
        x.insert(1, 0, 8);
        for (int k = 0; k < 40; k++) x.value(100 * (k * 7 % 16) + k * 5 % 16, k * 37 % 1999 - 999);
        StringBuilder condition = new StringBuilder("like+greater");
        for (int k = 0; k < 24; k++) condition.append("+like*1");
        condition.append(">0 or sum=most");
        for (int k = 0; k < 6; k++) {
            check.due("feed", Face.feed(x, condition.toString()), condition.length());
            check.due("rule " + k, x.rule(0, 1515, 10 * (k % 4) + k, 0), k + 1);
        }
        check.due("holds everywhere", x.ruleOf(5, 4), 256);
        check.due("looks", x.looks(), 1);
        for (int seed = 0; seed < 9; seed++) {
            check.so("drawn", x.drawn(seed, 30, 0, 0) <= 256);
            x.paint(0, seed, 1000000 * seed + 10000 * seed + 1515);
        }
        for (int row = 0; row < 16; row++) check.so("strokes", x.strokes(row, 0) <= 16);
        Face.feed(x, "repeat 6{turn a0:p15 to a0:p15;repeat 1{repeat 2{remove rows 0 to 7;insert rows 1 by 8;}}}");
        check.due("text", x.text(), 0);
        check.due("run", x.run(0), 1 + 6 * (1 + 1 + 1 + 4));
        check.due("undo", x.undo(), 29);
        check.due("count", x.count(2), 6);
        for (int k = 0; k < 29; k++) x.undo();
        check.due("undo", x.undo(), FewRectangles.STATE);
        for (int k = 0; k < 30; k++) check.due("redo", x.redo(), 29 - k);
        checkers(x);
    }

    private void checkers(FewRectangles x) {
        for (int k = 0; k < 4; k++) x.paint(1, k, (k / 2) * 1000100 + (k % 2) * 10001);
        x.copy(101, 1515, 0);
        check.due("rects of 16 by 16 unlike cells", x.rects(1), 256);
        check.due("the last one", x.rect(1, 255, 0), 15151515);
        check.due("lies", x.lies(1515, 1), 255);
        x.row(0, 60);
        check.due("clip has no room", x.clip(0, 0, 1, 1515), -13);
        check.due("clip of twelve", x.clip(0, 0, 1, 203), 12);
        check.due("paste of twelve", x.paste(0, 0, 12, 2, 1312), 12);
        check.due("rects", x.rects(2), 12);
    }

    private void deepTexts() {
        String[] deep = {"(", "[", "-", "not ", "[(", "not[", "1=1 or ", "1+", "1*", "repeat 9{", "tidy ink;"};
        for (String part : deep) {
            FewRectangles x = new FewRectangles();
            for (int size = 1; size * part.length() <= 200 && size < 10; size++) {
                Face.feed(x, part.repeat(size));
                check.so("rule of " + part, x.rule(0, 0, 0, 0) <= -100);
                Face.feed(x, part.repeat(size));
                check.so("text of " + part, x.text() >= -300);
            }
            Face.feed(x, part.repeat(200 / part.length()));
            check.so("longest rule of " + part, x.rule(0, 0, 0, 0) <= -100);
        }
        FewRectangles x = new FewRectangles();
        Face.feed(x, "1".repeat(200));
        check.due("a long number", x.rule(0, 0, 0, 0), -100);
        Face.feed(x, "a".repeat(200));
        check.due("a long word", x.text(), -100);
        Face.feed(x, "tidyink;" + "tidy ink;".repeat(20));
        check.due("words run together", x.text(), -100);
        Face.feed(x, "1" + "+1".repeat(98) + ">0");
        check.due("a long sum", x.rule(0, 707, 0, 0), 1);
        check.due("holds", x.holds(0, 707), 1);
        Face.feed(x, "tidy ink;".repeat(22));
        check.due("many lines", x.text(), 0);
        check.due("run", x.run(0), 22);
    }

    /** A refused request is none: what may be done again stays, and so does the rest. */
    private void refusalsChangeNothing() {
        FewRectangles x = new FewRectangles();
        x.paint(0, 1, 303);
        x.paint(0, 2, 1010202);
        x.undo();
        Face.feed(x, "paint face 5 a0;paint face 5 i0;");
        x.text();
        int[][] calls = {{0, 10, 0}, {0, 1, 800}};
        for (int[] a : calls) check.due("paint", x.paint(a[0], a[1], a[2]), FewRectangles.BAD);
        check.due("remove", x.remove(0, 7), FewRectangles.STATE);
        check.due("insert", x.insert(0, 0, 9), FewRectangles.FULL);
        check.due("run", x.run(0), -102);
        check.due("rule", x.rule(0, 0, 0, 0), -100);
        check.due("drop", x.drop(0), FewRectangles.BAD);
        check.due("paste", x.paste(0, 0, 1, 0, 0), -11);
        check.due("rects", x.rects(0), 1);
        check.due("shown", x.shown(0, 0), 1);
        check.due("undoable", x.count(3), 1);
        check.due("redo", x.redo(), 0);
        check.due("rects", x.rects(0), 5);
    }
}

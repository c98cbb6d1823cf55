import java.util.ArrayList;
import java.util.List;

/**
 * Refusals change nothing: of two objects that were used alike, one is asked what it refuses; after that all that can be
 * looked at is the same on both, also what may be undone and done again, and what stands on THE TAPE.
 */
final class RefusalTest {
    private static final int BAD = FewRectangles.BAD, STATE = FewRectangles.STATE, FULL = FewRectangles.FULL;
    private static final int VOID = FewRectangles.VOID;
    private final Check check = new Check("RefusalTest");

    public static void main(String[] args) {
        RefusalTest test = new RefusalTest();
        test.ofNew();
        test.ofUsed();
        test.ofFull();
        test.check.end();
    }

    private interface Maker {
        FewRectangles make();
    }

    /** Each line: the answer that is due, the call, its arguments. */
    private void all(String when, Maker maker, String... refusals) {
        List<Integer> untouched = portrait(maker.make());
        for (String refusal : refusals) {
            String[] words = refusal.trim().split(" +");
            int[] a = new int[words.length - 2];
            for (int i = 0; i < a.length; i++) a[i] = Integer.parseInt(words[i + 2]);
            FewRectangles x = maker.make();
            String told = when + ": " + Face.told(words[1], a);
            check.due(told, Face.call(x, words[1], a), Integer.parseInt(words[0]));
            check.so(told + " changes nothing", portrait(x).equals(untouched));
        }
    }

    // ---- the objects

    private static FewRectangles used() {
        FewRectangles x = new FewRectangles();
        x.remove(0, 206);
        x.remove(1, 407);
        x.paint(0, 3, 10102);
        x.paint(1, 0, 2020203);
        x.lines(0, 2, 4, 101);
        x.lines(1, 3, 5, 2);
        x.ground(1, 6);
        x.value(0, -7);
        x.value(102, 999);
        Face.feed(x, "value>5");
        x.rule(0, 203, 39, 0);
        x.image();
        Face.feed(x, "sum=0");
        x.rule(1, 101, 8, 1);
        x.row(0, 12);
        int[] elements = {0, 0, 0, 0, 1, 0, 0, 0, 9, 2, 3, 4};
        for (int i = 0; i < elements.length; i++) x.put(0, i, elements[i]);
        x.row(1, 0);
        Face.feed(x, "paint face 1 a0;remove rows 0 to 2;");
        x.text();
        x.value(1, 4);
        x.tidy(0);
        x.paint(2, 1, 203);
        x.undo();
        x.undo();
        Face.feed(x, "1=");
        return x;
    }

    /** As many rules, programs, bytes, requests, rows and columns as there may be. */
    private static FewRectangles full() {
        FewRectangles x = new FewRectangles();
        x.insert(0, 0, 8);
        x.insert(1, 0, 8);
        for (int k = 0; k < 6; k++) {
            Face.feed(x, "row=" + k);
            x.rule(k, 1515, 10 * (k % 4) + k, 0);
        }
        for (int k = 0; k < 35; k++) x.paint(k % 4, k % 10, 1000100 * (k % 16) + 10001 * (k % 7));
        for (int k = 0; k < 5; k++) x.undo();
        for (int k = 0; k < 4; k++) {
            Face.feed(x, "paint ink 1 a0;paint ink 10 a0;".substring(0, k == 0 ? 31 : 15));
            x.text();
        }
        x.row(3, 60);
        x.put(3, 59, 5);
        Face.feed(x, " ".repeat(196) + "1=1");
        return x;
    }

    // ---- all that can be looked at

    private static List<Integer> portrait(FewRectangles x) {
        List<Integer> seen = new ArrayList<>();
        for (int what = 0; what < 7; what++) seen.add(x.count(what));
        int high = x.count(0), wide = x.count(1);
        boolean isGreat = high * wide > 12;
        for (int r = 0; r < high; r++) {
            for (int c = 0; c < wide; c++) {
                if (isGreat && (r + 3 * c) % 7 > 0) continue;
                seen.add(x.valueAt(100 * r + c));
                for (int p = 0; p < 4; p++) {
                    if (isGreat && p != (r + c) % 4) continue;
                    seen.addAll(List.of(x.shown(100 * r + c, p), x.under(100 * r + c, p, 1), x.by(100 * r + c, p)));
                }
            }
        }
        for (int p = 0; p < 4; p++) {
            for (int r = 0; r < (isGreat ? 2 : high); r++) seen.add(x.under(100 * r, p, 2));
            for (int c = 0; c < (isGreat ? 2 : wide); c++) seen.add(x.under(c, p, 3));
            seen.add(x.rects(p));
        }
        for (int k = 0; k < 6; k++) seen.addAll(List.of(x.ruleOf(k, 0), x.ruleOf(k, 2), x.ruleOf(k, 4)));
        for (int s = 0; s < 4; s++) {
            for (int i : new int[] {0, 1, 4, 8, 11, 12, 59}) seen.add(x.element(s, i));
        }
        for (int k = 0; k < 4; k++) seen.addAll(List.of(x.tests(k, 0), x.tests(k, 1)));
        seen.addAll(List.of(x.looks(), x.idle(), x.differs()));
        later(x, seen);
        return seen;
    }

    /** What is on THE TAPE, by what a rule of it does; what was undone, and what is done again. */
    private static void later(FewRectangles x, List<Integer> seen) {
        for (int k = 0; k <= x.count(3); k += 1 + k / 3) seen.addAll(List.of(x.before(k, 0, 0), x.before(k, 101, 3)));
        for (int k = 0; k < 6; k++) seen.addAll(List.of(x.redo(), x.shown(0, 0), x.shown(102, 2)));
        x.drop(0);
        seen.addAll(List.of(x.feed(1, '1'), x.rule(0, 0, 6, 0), x.count(6), x.shown(0, 0)));
        seen.addAll(List.of(x.undo(), x.undo(), x.redo(), x.count(3), x.back(), x.looks()));
    }

    // ---- what they refuse

    private void ofNew() {
        all("a new object", FewRectangles::new, STATE + " undo", STATE + " redo", STATE + " back", STATE + " differs",
                "-11 put 0 0 1", "-11 clip 0 0 0 707", "-11 paste 0 0 1 0 0", BAD + " run 0", BAD + " tests 0 0", BAD + " drop 0",
                BAD + " bring 0 0", "-14 row 0 -1", BAD + " row 0 61", STATE + " remove 0 7", STATE + " remove 1 7",
                FULL + " insert 0 0 9", FULL + " insert 1 8 16", BAD + " before 1 0 0", BAD + " ruleOf 0 0", BAD + " holds 0 0");
    }

    private void ofUsed() {
        all("a used object", RefusalTest::used, BAD + " paint 0 10 203", BAD + " paint 0 -2 203", BAD + " paint 4 1 203",
                BAD + " paint 0 1 303", BAD + " paint 0 1 204", BAD + " lines 0 0 1 3", BAD + " lines 1 0 1 4", BAD + " lines 2 0 1 0",
                BAD + " lines 0 0 10 2", BAD + " ground 0 -1", BAD + " ground 0 10", BAD + " value 0 1000", BAD + " value 300 1",
                BAD + " insert 0 4 1", BAD + " insert 0 0 17", FULL + " insert 0 3 14", FULL + " insert 1 0 13", STATE + " remove 0 2",
                STATE + " remove 1 3", BAD + " remove 0 3", BAD + " copy 203 204 0", BAD + " copy 204 203 0", BAD + " copy 203 203 2",
                BAD + " sort 3 0 0", BAD + " sort 2 4 0", BAD + " sort 2 0 2", BAD + " move 0 1 2", BAD + " move 1 3 1", BAD + " tidy 4",
                BAD + " rule 3 0 0 0", BAD + " rule 0 204 0 0", BAD + " rule 0 0 40 0", BAD + " rule 0 0 0 2", BAD + " drop 2",
                BAD + " bring 0 2", BAD + " bring 2 0", BAD + " paste 0 0 2 0 0", BAD + " paste 0 0 1 0 300", "-13 paste 0 8 1 0 0",
                "-13 paste 1 0 1 0 0", "-11 paste 2 0 1 0 0", "-102 run 0", BAD + " run 1", "-102 tests 0 0", BAD + " tests 0 4");
        all("a used object", RefusalTest::used, BAD + " would 0 10 0", BAD + " drawn 1 31 0 0", BAD + " greatest 0 -1 0",
                "-13 put 0 12 1", "-13 put 1 0 1", "-11 put 3 0 1", BAD + " put 4 0 1", "-14 row 0 -1", BAD + " row 0 61",
                "-13 clip 0 10 0 203", "-13 clip 0 8 0 102", "-13 clip 1 1 2 0", "-11 clip 2 0 0 203", BAD + " clip 0 0 0 300", VOID + " element 0 12",
                BAD + " feed 0 1", BAD + " feed 5 1", BAD + " before 20 0 0", BAD + " count 7", VOID + " valueAt 300");
    }

    private void ofFull() {
        all("a full object", RefusalTest::full, FULL + " rule 0 0 0 0", FULL + " rule 6 1515 39 1", BAD + " rule 7 0 0 0", FULL + " text",
                FULL + " feed 2 0", FULL + " feed 4 0", BAD + " feed 5 0", FULL + " insert 0 0 1", FULL + " insert 1 16 16",
                STATE + " remove 0 15", "-102 run 0", "-102 tests 0 0", BAD + " run 4", STATE + " back", STATE + " differs",
                "-13 clip 3 56 0 1515", "-13 paste 3 1 12 0 0", "-13 put 3 60 1", BAD + " paint 0 1 1516", BAD + " before 31 0 0");
    }
}

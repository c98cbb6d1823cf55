import java.util.ArrayList;
import java.util.List;

/**
 * What was on lines that have gone is nowhere any more. Of two objects one was 8 by 8 ever since, the other was 16 by 16
 * and full of formats, VALUES and looks taken of it, and lost rows and columns: from then on both answer alike.
 */
final class GoneLinesTest {
    private static final int PART = 150;
    private final Check check = new Check("GoneLinesTest");

    public static void main(String[] args) {
        GoneLinesTest test = new GoneLinesTest();
        String[] later = {"count 0", "insert 0 0 1", "insert 0 4 2", "insert 0 8 8", "insert 1 0 1", "insert 1 3 1", "insert 1 8 8",
            "tidy 0", "tidy 3", "copy 707 707 1", "copy 7 70000 0", "sort 7 3 1", "move 0 101 6", "move 1 2 4", "remove 0 707",
            "remove 1 607", "drop 0", "undo", "back"};
        for (String request : later) test.compare(request);
        test.check.end();
    }

    private void compare(String request) {
        List<String> looks = looks();
        for (int from = 0; from < looks.size(); from += PART) {
            FewRectangles small = small(), shrunk = shrunk();
            same(request, request, small, shrunk);
            for (String look : looks.subList(from, Math.min(looks.size(), from + PART))) same(request, look, small, shrunk);
        }
    }

    private void same(String behind, String call, FewRectangles small, FewRectangles shrunk) {
        check.due("behind " + behind + ": " + call, told(shrunk, call), told(small, call));
    }

    private static int told(FewRectangles x, String call) {
        String[] words = call.split(" ");
        int[] a = new int[words.length - 1];
        for (int i = 0; i < a.length; i++) a[i] = Integer.parseInt(words[i + 1]);
        return Face.call(x, words[0], a);
    }

    private static FewRectangles small() {
        FewRectangles x = new FewRectangles();
        paintKept(x, 707);
        x.image();
        x.back();
        x.value(5, 1);
        return x;
    }

    private static FewRectangles shrunk() {
        FewRectangles x = new FewRectangles();
        x.insert(0, 8, 8);
        x.insert(1, 8, 8);
        for (int p = 0; p < 4; p++) {
            for (int k = 0; k < 4; k++) {
                x.paint(p, (p + k) % 3, 8001515 + 1000000 * k);
                x.paint(p, (p + k) % 4, 81515 + 20000 * k);
            }
            x.lines(0, p, p, 815);
            x.lines(1, p, p, 815);
        }
        for (int k = 0; k < 16; k++) {
            x.value(1500 + k, k - 3);
            x.value(100 * k + 15, 4 - k);
            x.value(800 + k, 999);
        }
        paintKept(x, 1515);
        lookAround(x);
        x.image();
        x.differs();
        x.paint(0, 4, 8000815);
        x.paint(0, 4, 81508);
        x.greatest(0, 4, 1);
        x.remove(0, 815);
        x.remove(1, 815);
        x.image();
        x.back();
        x.value(5, 1);
        return x;
    }

    private static void paintKept(FewRectangles x, int all) {
        x.paint(0, 0, 707);
        x.paint(0, 1, 3040606);
        x.paint(1, 0, 3);
        x.paint(1, 0, 5000700);
        x.paint(2, 4, 3030703);
        x.paint(1, 2, 1010303);
        x.paint(2, 3, 20506);
        x.paint(3, 0, 6000607);
        x.lines(0, 3, 1, 203);
        x.lines(1, 1, 2, 304);
        x.value(204, 5);
        x.value(707, 4);
        Face.feed(x, "value>3 and value<6");
        x.rule(0, all, 12, 0);
        Face.feed(x, "row=column");
        x.rule(1, all, 4, 1);
    }

    private static void lookAround(FewRectangles x) {
        for (int v = 0; v < 4; v++) {
            for (int p = 0; p < 4; p++) x.greatest(p, v, 1);
        }
        x.looks();
        x.idle();
        for (int row = 0; row < 16; row++) x.strokes(row, row % 4);
        for (int p = 0; p < 4; p++) x.would(p, 1, 1515);
        x.drawn(7, 30, 2, 0);
        x.text();
        x.tests(0, 3);
    }

    private static List<String> looks() {
        List<String> looks = new ArrayList<>(List.of("looks", "idle", "differs", "count 0", "count 1", "count 2"));
        for (int p = 0; p < 4; p++) {
            looks.addAll(List.of("rects " + p, "needless " + p, "all " + p + " 707", "would " + p + " 1 303", "drawn 5 20 " + p + " 0",
                    "drawn 5 20 " + p + " 1", "rect " + p + " 2 0", "would " + p + " -1 505"));
            for (int v = 0; v < 5; v++) {
                looks.addAll(List.of("greatest " + p + " " + v + " 0", "greatest " + p + " " + v + " 1", "many " + p + " " + v + " 707"));
            }
        }
        for (int k = 0; k < 6; k++) looks.addAll(List.of("ruleOf 0 " + k, "ruleOf 1 " + k));
        for (int k = 0; k < 17; k++) {
            looks.add("stripes " + k);
            for (int p = 0; p < 4; p++) looks.add("strokes " + k + " " + p);
        }
        for (int r = 0; r < 10; r++) {
            for (int c = 0; c < 10; c++) addCell(looks, 100 * r + c, (r + 2 * c) % 4);
        }
        for (int k = 0; k < 16; k++) {
            addCell(looks, 1500 + k, k % 4);
            addCell(looks, 100 * k + 15, (k + 1) % 4);
        }
        return looks;
    }

    private static void addCell(List<String> looks, int cell, int p) {
        looks.addAll(List.of("valueAt " + cell, "shown " + cell + " " + p, "by " + cell + " " + p, "lies " + cell + " " + p,
                "alike " + cell, "before 0 " + cell + " " + p));
        for (int what = 1; what < 5; what++) looks.add("under " + cell + " " + (p + what) % 4 + " " + what);
        for (int q = 0; q < 4; q++) looks.add("under " + cell + " " + q + " 1");
    }
}

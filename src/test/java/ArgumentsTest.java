import java.util.ArrayList;
import java.util.LinkedHashMap;
import java.util.List;
import java.util.Map;
import java.util.TreeSet;

/**
 * Each argument of each call, just inside and just outside of what the document lets it be, on sheets of unlike sizes;
 * the other arguments are good. What is refused is refused by the right number, what is not is not.
 */
final class ArgumentsTest {
    /** The kinds of a call's arguments, a letter each; what they may be is told by refusal(). */
    private static final Map<String, String> KINDS = new LinkedHashMap<>();
    private static final int RULES = 2, PROGRAMS = 2, UNDOABLE_CALLS = 2, SIZE = 60, FIVES = 5;

    static {
        String[] told = {"paint pfr", "lines wpfL", "ground pn", "value cv", "insert wPI", "remove wL", "copy rrb", "sort LRb",
            "move wLM", "tidy p", "rule Krub", "drop k", "bring kk", "paste siNpc", "run g", "before hCp", "shown cp", "under cp5",
            "by cp", "valueAt c", "holds kc", "ruleOf k6", "rects p", "rect pxb", "lies cp", "would pfr", "drawn *dpb", "all pr",
            "many pnr", "greatest pnb", "alike c", "stripes H", "strokes Hp", "needless p", "row sS", "put sj*", "element sj",
            "clip sipr", "feed F*", "tests g4", "count 7"};
        for (String call : told) {
            String[] two = call.split(" ");
            KINDS.put(two[0], two[1]);
        }
    }

    private final Check check = new Check("ArgumentsTest");
    private FewRectangles x;
    private int high, wide, calls;

    public static void main(String[] args) {
        ArgumentsTest test = new ArgumentsTest();
        int[][] sizes = {{8, 8}, {1, 1}, {3, 11}, {16, 2}, {16, 16}};
        for (int[] size : sizes) test.sheet(size[0], size[1]);
        test.check.end();
    }

    private void sheet(int high, int wide) {
        this.high = high;
        this.wide = wide;
        x = null;
        for (Map.Entry<String, String> call : KINDS.entrySet()) {
            for (int way = 0; way < (call.getValue().startsWith("w") ? 2 : 1); way++) {
                int[] good = good(call.getValue(), way);
                for (int i = 0; i < good.length; i++) argument(call.getKey(), call.getValue(), good, i);
            }
        }
    }

    /** An object of the size, with rules, programs, rows and a history; a new one well ahead of the 512th call. */
    private FewRectangles fresh() {
        if (x != null && calls < 450) return x;
        x = new FewRectangles();
        if (high < 8) x.remove(0, 100 * high + 7);
        if (wide < 8) x.remove(1, 100 * wide + 7);
        if (high > 8) x.insert(0, 0, high - 8);
        if (wide > 8) x.insert(1, 0, wide - 8);
        x.image();
        x.back();
        for (int k = 0; k < RULES; k++) {
            Face.feed(x, "1=2");
            x.rule(0, 0, 0, 0);
        }
        for (int k = 0; k < PROGRAMS; k++) x.text();
        for (int k = 0; k < 4; k++) x.row(k, SIZE);
        calls = 20;
        return x;
    }

    private static int[] good(String kinds, int way) {
        int[] good = new int[kinds.length()];
        for (int i = 0; i < good.length; i++) {
            char kind = kinds.charAt(i);
            good[i] = kind == 'w' ? way : kind == 'I' || kind == 'N' || kind == 'F' ? 1 : 0;
        }
        return good;
    }

    private void argument(String name, String kinds, int[] good, int i) {
        for (int v : candidates(kinds.charAt(i))) {
            int[] a = good.clone();
            a[i] = v;
            int want = refusal(name, kinds, a);
            FewRectangles used = fresh();
            int undoable = used.count(3);
            int answer = Face.call(used, name, a);
            calls += 3;
            String told = high + " by " + wide + ": " + Face.told(name, a);
            if (want != 0) {
                check.due(told, answer, want);
                check.due(told + " is no request", used.count(3), undoable);
            } else {
                check.so(told + " is not refused, answered " + answer, isAnswer(name, answer));
                if (used.count(3) > undoable) used.undo();
                else if (name.equals("feed") || name.equals("row")) x = null;
            }
        }
    }

    private static boolean isAnswer(String name, int answer) {
        if (name.equals("under") || name.equals("rect") || name.equals("lies") || name.equals("before")) return answer >= -1;
        if (name.equals("element")) return answer == (short) answer;
        return answer >= 0;
    }

    // ---- what an argument may be

    /** The number that the call is refused by, 0 if it is not. */
    private int refusal(String name, String kinds, int[] a) {
        boolean answersVoid = name.equals("valueAt") || name.equals("element");
        int later = 0;
        for (int i = 0; i < a.length; i++) {
            int refused = refusal(kinds.charAt(i), a[i], kinds.startsWith("w") ? a[0] : 0, name);
            if (refused == FewRectangles.BAD) return answersVoid ? FewRectangles.VOID : refused;
            if (refused != 0) later = refused;
        }
        if (later != 0) return answersVoid ? FewRectangles.VOID : later;
        if (name.equals("rule")) return -100;
        if (name.equals("insert") && size(a[0]) + a[2] > 16) return FewRectangles.FULL;
        if (name.equals("remove") && a[1] % 100 - a[1] / 100 + 1 == size(a[0])) return FewRectangles.STATE;
        return 0;
    }

    private int size(int way) {
        return way == 0 ? high : wide;
    }

    private static boolean in(int v, int least, int most) {
        return v >= least && v <= most;
    }

    private int refusal(char kind, int v, int way, String name) {
        boolean is;
        switch (kind) {
            case '*': return 0;
            case 'p': is = in(v, 0, 3); break;
            case 'f': is = in(v, -1, 9); break;
            case 'n': is = in(v, 0, 9); break;
            case 'w':
            case 'b': is = in(v, 0, 1); break;
            case 'v': is = in(v, -999, 999); break;
            case 'c': is = v >= 0 && v / 100 < high && v % 100 < wide; break;
            case 'C': is = v >= 0 && v / 100 < 16 && v % 100 < 16; break;
            case 'r': is = isRect(v); break;
            case 'L': is = v >= 0 && v / 100 <= v % 100 && v % 100 < size(way); break;
            case 'M': is = in(v, 0, size(way) - 1); break;
            case 'P': is = in(v, 0, size(way)); break;
            case 'I': is = in(v, 1, 16); break;
            case 'R': is = in(v, 0, wide - 1); break;
            case 'H': is = in(v, 0, high - 1); break;
            case 'k': is = in(v, 0, RULES - 1); break;
            case 'K': is = in(v, 0, RULES); break;
            case 'u': is = in(v, 0, 39); break;
            case 'g': is = in(v, 0, PROGRAMS - 1); break;
            case 'h': is = in(v, 0, UNDOABLE_CALLS); break;
            case 's': is = in(v, 0, 3); break;
            case 'N': is = in(v, 1, 12); break;
            case 'x': is = v >= 0; break;
            case 'd': is = in(v, 0, 30); break;
            case 'F': is = in(v, 1, 4); break;
            case 'S':
                if (v < 0) return -14;
                is = v <= 60;
                break;
            case 'i': return in(v, 0, name.equals("clip") ? SIZE : SIZE - FIVES) ? 0 : -13;
            case 'j': return in(v, 0, SIZE - 1) ? 0 : -13;
            default: is = in(v, 0, kind - '1');
        }
        return is ? 0 : FewRectangles.BAD;
    }

    private boolean isRect(int v) {
        if (v < 0) return false;
        int top = v / 1000000, left = v / 10000 % 100, bottom = v / 100 % 100, right = v % 100;
        return top <= bottom && bottom < high && left <= right && right < wide;
    }

    // ---- what is tried

    private TreeSet<Integer> candidates(char kind) {
        TreeSet<Integer> all = new TreeSet<>(List.of(Integer.MIN_VALUE, Integer.MIN_VALUE + 1, Integer.MAX_VALUE, Integer.MAX_VALUE - 1));
        for (int v = -3; v < 70; v++) all.add(v);
        if (kind == 'v') all.addAll(List.of(-1001, -1000, -999, 998, 999, 1000, 1001));
        if (kind == 'c' || kind == 'C' || kind == 'L') {
            for (int v = -120; v < 1720; v++) all.add(v);
        }
        if (kind == 'r') all.addAll(rects());
        for (int bit = 7; bit < 31; bit++) all.addAll(List.of(1 << bit, (1 << bit) - 1, -(1 << bit), 1 - (1 << bit)));
        return all;
    }

    private List<Integer> rects() {
        List<Integer> rects = new ArrayList<>();
        TreeSet<Integer> tops = places(high), lefts = places(wide);
        for (int top : tops) {
            for (int left : lefts) {
                for (int bottom : tops) {
                    for (int right : lefts) {
                        int v = 1000000 * top + 10000 * left + 100 * bottom + right;
                        rects.add(v);
                        if (top + left == 0) rects.add(-v);
                    }
                }
            }
        }
        return rects;
    }

    private static TreeSet<Integer> places(int size) {
        return new TreeSet<>(List.of(0, 1, size - 1, size, 99));
    }
}

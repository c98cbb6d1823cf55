import java.util.Map;

/** Makes calls with arguments that are mostly good, from a seed; the same seed makes the same calls. */
final class Maker {
    private static final int[] WILD = {Integer.MIN_VALUE, Integer.MAX_VALUE, -1, -2, 4, 10, 16, 17, 99, 100, 1616,
        61, 200, 9999, 1000000, 99999999, -1000000, 1000, -1000, 65535, 800, 8, 31};
    private static final Map<String, String> KINDS = Map.ofEntries(
            Map.entry("paint", "pfr"), Map.entry("ground", "pn"), Map.entry("value", "cv"), Map.entry("copy", "rrb"),
            Map.entry("tidy", "p"), Map.entry("rule", "krub"), Map.entry("drop", "k"), Map.entry("bring", "kk"),
            Map.entry("paste", "simpc"), Map.entry("run", "g"), Map.entry("undo", ""), Map.entry("redo", ""),
            Map.entry("before", "hCp"), Map.entry("shown", "cp"), Map.entry("under", "cp5"), Map.entry("by", "cp"),
            Map.entry("valueAt", "c"), Map.entry("holds", "kc"), Map.entry("ruleOf", "k6"), Map.entry("idle", ""),
            Map.entry("rects", "p"), Map.entry("rect", "pxb"), Map.entry("lies", "cp"), Map.entry("would", "pfr"),
            Map.entry("drawn", "zdpb"), Map.entry("all", "pr"), Map.entry("many", "pnr"), Map.entry("greatest", "pnb"),
            Map.entry("alike", "c"), Map.entry("looks", ""), Map.entry("stripes", "R"), Map.entry("strokes", "Rp"),
            Map.entry("needless", "p"), Map.entry("row", "sN"), Map.entry("put", "sjS"), Map.entry("element", "sj"),
            Map.entry("clip", "sipr"), Map.entry("feed", "wz"), Map.entry("text", ""), Map.entry("tests", "g4"),
            Map.entry("image", ""), Map.entry("back", ""), Map.entry("differs", ""), Map.entry("count", "7"));

    private long seed;
    private final int palette, wildness;
    int high = 8, wide = 8, rules, undoable;

    Maker(long seed) {
        this.seed = seed * 7919 + 17;
        palette = 1 + rnd(4);
        wildness = rnd(3) == 0 ? 12 : 60;
    }

    int rnd(int n) {
        seed = seed * 6364136223846793005L + 1442695040888963407L;
        return (int) ((seed >>> 33) % n);
    }

    int[] arguments(String name) {
        int way = rnd(2);
        switch (name) {
            case "lines": return wilder(way, property(), format(), ab(way));
            case "insert": return wilder(way, rnd(size(way) + 1), rnd(5) == 0 ? 1 + rnd(16) : 1 + rnd(2));
            case "remove": return wilder(way, ab(way));
            case "move":
                int ab = ab(way);
                return wilder(way, ab, rnd(Math.max(1, size(way) - (ab % 100 - ab / 100))));
            case "sort": return wilder(ab(0), rnd(wide), rnd(2));
            default:
        }
        String kinds = KINDS.get(name);
        int[] a = new int[kinds.length()];
        for (int i = 0; i < a.length; i++) a[i] = argument(kinds.charAt(i));
        return wilder(a);
    }

    private int[] wilder(int... a) {
        for (int i = 0; i < a.length; i++) {
            if (rnd(wildness) == 0) a[i] = rnd(4) == 0 ? (int) (seed >>> 20) : WILD[rnd(WILD.length)];
        }
        return a;
    }

    private int argument(char kind) {
        switch (kind) {
            case 'p': return property();
            case 'f': return format();
            case 'n': return rnd(6) == 0 ? rnd(10) : rnd(palette);
            case 'r': return rect();
            case 'c': return 100 * rnd(high) + rnd(wide);
            case 'C': return 100 * rnd(16) + rnd(16);
            case 'v': return rnd(6) == 0 ? rnd(1999) - 999 : rnd(5) - 1;
            case 'b': return rnd(2);
            case 'k': return rnd(rules + (rnd(4) == 0 ? 1 : 0) + (rules == 0 ? 1 : 0));
            case 'u': return 10 * rnd(4) + rnd(palette + 1);
            case 's': return rnd(4);
            case 'i': return rnd(3) == 0 ? rnd(60) : 5 * rnd(4);
            case 'm': return rnd(6) == 0 ? rnd(14) : 1 + rnd(3);
            case 'g': return rnd(4);
            case 'h': return rnd(undoable + 1);
            case 'x': return rnd(12);
            case 'z': return rnd(1 << 30) * 4 + rnd(4);
            case 'd': return rnd(31);
            case 'R': return rnd(high);
            case 'N': return rnd(4) == 0 ? rnd(61) : 60;
            case 'j': return rnd(60);
            case 'S': return rnd(10) == 0 ? rnd(1 << 20) - (1 << 19) : rnd(4);
            case 'w': return 1 + rnd(4);
            default: return rnd(kind - '0');
        }
    }

    private int size(int way) {
        return way == 0 ? high : wide;
    }

    private int property() {
        return rnd(3) == 0 ? rnd(4) : 0;
    }

    private int format() {
        return rnd(10) == 0 ? rnd(11) - 1 : rnd(palette + 1) - 1;
    }

    private int ab(int way) {
        int a = rnd(size(way)), b = rnd(3) == 0 ? rnd(size(way)) : Math.min(size(way) - 1, a + rnd(3));
        return 100 * Math.min(a, b) + Math.max(a, b);
    }

    private int rect() {
        int rows = ab(0), columns = ab(1);
        return 1000000 * (rows / 100) + 10000 * (columns / 100) + 100 * (rows % 100) + columns % 100;
    }

    // ---- texts

    /** A condition, or something like one. */
    String condition() {
        return spoiled(either(0), "[]()<=>+-*;A{} \t1not or value _~");
    }

    private String blank() {
        return rnd(8) == 0 ? "  " : " ";
    }

    private String either(int deep) {
        StringBuilder s = new StringBuilder(negated(deep));
        for (int n = rnd(3); n > 0; n--) s.append(rnd(2) == 0 ? " or " : " and ").append(negated(deep));
        return s.toString();
    }

    private String negated(int deep) {
        int which = rnd(6);
        if (which == 0 && deep < 6) return "not" + blank() + negated(deep + 1);
        if (which == 1 && deep < 6) return "[" + either(deep + 1) + blank() + "]";
        return sum(deep) + "<=>".charAt(rnd(3)) + sum(deep);
    }

    private String sum(int deep) {
        StringBuilder s = new StringBuilder(unit(deep));
        for (int n = rnd(5) / 2; n > 0; n--) s.append(rnd(2) == 0 ? "" : " ").append("+-*".charAt(rnd(3))).append(unit(deep));
        return s.toString();
    }

    private String unit(int deep) {
        String[] words = {"value", "row", "column", "left", "above", "sum", "most", "least", "like", "greater"};
        int which = rnd(12);
        if (which < 6) return words[rnd(words.length)];
        if (which == 6 && deep < 6) return "-" + unit(deep + 1);
        if (which == 7 && deep < 6) return "(" + sum(deep + 1) + ")";
        if (which == 8) return "" + rnd(100000) % (rnd(9) == 0 ? 100000 : 10000);
        return "" + rnd(6);
    }

    /** A program, or something like one. */
    String program() {
        StringBuilder s = new StringBuilder();
        for (int n = 1 + rnd(5); n > 0; n--) s.append(line(0)).append(rnd(3) == 0 ? " " : "");
        return spoiled(s.toString(), "{};:-0123 face repeat paint a b none to");
    }

    private String line(int deep) {
        String lines = rnd(2) == 0 ? "rows" : "columns", to = rnd(40) == 0 ? " by " : " to ";
        switch (rnd(deep < 5 ? 12 : 10)) {
            case 0: case 1: case 2: return "paint " + name() + what() + " " + area() + ";";
            case 3: return lines + " " + name() + what() + " " + two(to) + " ;";
            case 4: return "insert " + lines + rnd(8) + " by " + (rnd(8) == 0 ? rnd(18) : 1 + rnd(2)) + ";";
            case 5: return "remove " + lines + " " + two(to) + ";";
            case 6: return "copy " + area() + to + area() + ";";
            case 7: return "turn " + area() + to + area() + ";";
            case 8: return "tidy " + name() + ";";
            case 9: return "shift " + step() + " " + step() + ";";
            default:
                StringBuilder s = new StringBuilder("repeat ").append(rnd(10) == 0 ? rnd(100) : rnd(5)).append("{");
                for (int n = rnd(3); n > 0; n--) s.append(line(deep + 1));
                return s.append("}").toString();
        }
    }

    private String name() {
        return new String[] {"face", "size", "ink", "fill"}[property()];
    }

    private String what() {
        return rnd(4) == 0 ? " none" : rnd(30) == 0 ? " 10" : " " + rnd(palette + 1);
    }

    private String two(String between) {
        int a = rnd(high), b = rnd(2) == 0 ? a : rnd(high);
        return Math.min(a, b) + between + Math.max(a, b);
    }

    private String step() {
        return (rnd(3) == 0 ? "-" : "") + rnd(3);
    }

    private String area() {
        int r = rnd(high), c = rnd(wide);
        String place = (char) ('a' + c) + "" + r;
        if (rnd(4) == 0) return place;
        return place + ":" + (char) ('a' + Math.min(15, c + rnd(3))) + (r + rnd(3));
    }

    private String spoiled(String text, String signs) {
        StringBuilder s = new StringBuilder(text);
        for (int n = rnd(4) == 0 ? 1 + rnd(2) : 0; n > 0 && s.length() > 0; n--) {
            int at = rnd(s.length());
            switch (rnd(4)) {
                case 0: s.deleteCharAt(at); break;
                case 1: s.insert(at, signs.charAt(rnd(signs.length()))); break;
                case 2: s.setCharAt(at, rnd(5) == 0 ? (char) rnd(256) : signs.charAt(rnd(signs.length()))); break;
                default: s.setLength(at);
            }
        }
        if (rnd(12) == 0) s.append("  ");
        return s.toString();
    }
}

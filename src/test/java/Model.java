import java.util.ArrayList;
import java.util.Collections;
import java.util.HashMap;
import java.util.HashSet;
import java.util.List;
import java.util.Map;
import java.util.Set;
import java.util.TreeMap;

/**
 * The document told a second time, slowly and with other means (lists, trees, exceptions), to be
 * compared with the program. It works out everything anew at every call.
 */
final class Model {
    static final int NONE = -1, BAD = -2, STATE = -3, FULL = -4, MIXED = -5, VOID = -2000000000;

    private Sheet now = new Sheet(8, 8);
    private final List<Sheet> past = new ArrayList<>();
    private final List<Sheet> future = new ArrayList<>();
    private Sheet image;
    private final List<List<Step>> programs = new ArrayList<>();
    private final short[][] shelves = new short[4][];
    private String tape = "";

    /** A call that is refused, with its answer. */
    static final class Refused extends RuntimeException {
        private static final long serialVersionUID = 1;
        final int answer;

        Refused(int answer) {
            super(null, null, false, false);
            this.answer = answer;
        }
    }

    private static void want(boolean is, int answer) {
        if (!is) throw new Refused(answer);
    }

    private static void good(boolean is) {
        want(is, BAD);
    }

    private static boolean in(int v, int least, int most) {
        return v >= least && v <= most;
    }

    // ---- the sheet

    static final class Cell {
        int value;
        int[] own = {-1, -1, -1, -1};

        Cell copy() {
            Cell c = new Cell();
            c.value = value;
            c.own = own.clone();
            return c;
        }
    }

    static final class Rule {
        int top, left, bottom, right, property, number, stops;
        Node condition;

        Rule copy() {
            Rule r = new Rule();
            r.top = top;
            r.left = left;
            r.bottom = bottom;
            r.right = right;
            r.property = property;
            r.number = number;
            r.stops = stops;
            r.condition = condition;
            return r;
        }
    }

    static final class Area {
        final int top, left, bottom, right;

        Area(int top, int left, int bottom, int right) {
            this.top = top;
            this.left = left;
            this.bottom = bottom;
            this.right = right;
        }

        static Area of(int rect) {
            good(rect >= 0);
            return new Area(rect / 1000000, rect / 10000 % 100, rect / 100 % 100, rect % 100);
        }

        int high() {
            return bottom - top + 1;
        }

        int wide() {
            return right - left + 1;
        }

        boolean has(int r, int c) {
            return in(r, top, bottom) && in(c, left, right);
        }

        int number() {
            return 1000000 * top + 10000 * left + 100 * bottom + right;
        }
    }

    static final class Sheet {
        List<List<Cell>> grid = new ArrayList<>();
        List<int[]> rowOwn = new ArrayList<>(), columnOwn = new ArrayList<>();
        int[] ground = new int[4];
        List<Rule> rules = new ArrayList<>();

        Sheet(int high, int wide) {
            for (int r = 0; r < high; r++) {
                grid.add(emptyLine(wide));
                rowOwn.add(unset());
            }
            for (int c = 0; c < wide; c++) columnOwn.add(unset());
        }

        static int[] unset() {
            return new int[] {-1, -1, -1, -1};
        }

        static List<Cell> emptyLine(int n) {
            List<Cell> line = new ArrayList<>();
            for (int i = 0; i < n; i++) line.add(new Cell());
            return line;
        }

        Sheet copy() {
            Sheet s = new Sheet(0, 0);
            for (List<Cell> line : grid) {
                List<Cell> copied = new ArrayList<>();
                for (Cell c : line) copied.add(c.copy());
                s.grid.add(copied);
            }
            for (int[] o : rowOwn) s.rowOwn.add(o.clone());
            for (int[] o : columnOwn) s.columnOwn.add(o.clone());
            s.ground = ground.clone();
            for (Rule r : rules) s.rules.add(r.copy());
            return s;
        }

        int high() {
            return rowOwn.size();
        }

        int wide() {
            return columnOwn.size();
        }

        Cell at(int r, int c) {
            return grid.get(r).get(c);
        }

        /** Rows become columns: what is done to rows can so be done to columns. */
        void transpose() {
            List<List<Cell>> turned = new ArrayList<>();
            for (int c = 0; c < wide(); c++) {
                List<Cell> line = new ArrayList<>();
                for (int r = 0; r < high(); r++) line.add(at(r, c));
                turned.add(line);
            }
            grid = turned;
            List<int[]> own = rowOwn;
            rowOwn = columnOwn;
            columnOwn = own;
            for (Rule r : rules) {
                int t = r.top, b = r.bottom;
                r.top = r.left;
                r.bottom = r.right;
                r.left = t;
                r.right = b;
            }
        }

        int[] rc(int cell) {
            good(cell >= 0 && cell / 100 < high() && cell % 100 < wide());
            return new int[] {cell / 100, cell % 100};
        }

        Area area(Area a) {
            good(a.top >= 0 && a.left >= 0 && a.top <= a.bottom && a.left <= a.right
                    && a.bottom < high() && a.right < wide());
            return a;
        }

        Area area(int rect) {
            return area(Area.of(rect));
        }

        int beneath(int r, int c, int p) {
            if (rowOwn.get(r)[p] >= 0) return rowOwn.get(r)[p];
            if (columnOwn.get(c)[p] >= 0) return columnOwn.get(c)[p];
            return ground[p];
        }

        int plain(int r, int c, int p) {
            return at(r, c).own[p] >= 0 ? at(r, c).own[p] : beneath(r, c, p);
        }

        boolean holds(Rule rule, int r, int c) {
            if (!in(r, rule.top, rule.bottom) || !in(c, rule.left, rule.right)) return false;
            try {
                return rule.condition.work(this, rule, r, c) != 0;
            } catch (ArithmeticException tooMuch) {
                return false;
            }
        }

        int by(int r, int c, int p) {
            for (int k = 0; k < rules.size(); k++) {
                Rule rule = rules.get(k);
                if (!holds(rule, r, c)) continue;
                if (rule.property == p) return 4 + k;
                if (rule.stops == 1) break;
            }
            return at(r, c).own[p] >= 0 ? 3 : rowOwn.get(r)[p] >= 0 ? 2 : columnOwn.get(c)[p] >= 0 ? 1 : 0;
        }

        int shown(int r, int c, int p) {
            int by = by(r, c, p);
            return by >= 4 ? rules.get(by - 4).number : plain(r, c, p);
        }

        String look(int r, int c) {
            return shown(r, c, 0) + "," + shown(r, c, 1) + "," + shown(r, c, 2) + "," + shown(r, c, 3);
        }

        Set<String> looks() {
            Set<String> looks = new HashSet<>();
            for (int r = 0; r < high(); r++) {
                for (int c = 0; c < wide(); c++) looks.add(look(r, c));
            }
            return looks;
        }

        int[] run(int r, int c, int p) {
            int v = at(r, c).own[p];
            int a = c, b = c;
            while (a > 0 && at(r, a - 1).own[p] == v) a--;
            while (b + 1 < wide() && at(r, b + 1).own[p] == v) b++;
            return new int[] {v, a, b};
        }

        boolean sameRun(int r, int other, int c, int p) {
            if (other < 0 || other >= high()) return false;
            return java.util.Arrays.equals(run(r, c, p), run(other, c, p));
        }

        /** From the top left of each rectangle (100 * row + column) to it and its number. */
        TreeMap<Integer, int[]> cover(int p) {
            TreeMap<Integer, int[]> found = new TreeMap<>();
            for (int r = 0; r < high(); r++) {
                for (int c = 0; c < wide(); c++) {
                    if (at(r, c).own[p] < 0) continue;
                    int[] run = run(r, c, p);
                    int top = r, bottom = r;
                    while (sameRun(r, top - 1, c, p)) top--;
                    while (sameRun(r, bottom + 1, c, p)) bottom++;
                    int rect = new Area(top, run[1], bottom, run[2]).number();
                    found.put(100 * top + run[1], new int[] {rect, run[0]});
                }
            }
            return found;
        }
    }

    // ---- requests on a sheet

    private static void paint(Sheet s, int p, int v, Area area) {
        good(in(p, 0, 3) && in(v, -1, 9));
        Area a = s.area(area);
        for (int r = a.top; r <= a.bottom; r++) {
            for (int c = a.left; c <= a.right; c++) s.at(r, c).own[p] = v;
        }
    }

    private static void lines(Sheet s, int way, int p, int v, int first, int last) {
        good(in(way, 0, 1) && in(p, 0, 3) && in(v, -1, 9));
        List<int[]> own = way == 0 ? s.rowOwn : s.columnOwn;
        good(first >= 0 && first <= last && last < own.size());
        for (int i = first; i <= last; i++) own.get(i)[p] = v;
    }

    private static int insert(Sheet s, int way, int place, int n) {
        good(in(way, 0, 1));
        if (way == 1) s.transpose();
        try {
            good(in(place, 0, s.high()) && in(n, 1, 16));
            want(s.high() + n <= 16, FULL);
            List<List<Cell>> fresh = new ArrayList<>();
            for (int k = 0; k < n; k++) {
                List<Cell> line = Sheet.emptyLine(s.wide());
                for (int c = 0; c < s.wide() && place > 0 && place < s.high(); c++) {
                    for (int p = 0; p < 4; p++) {
                        int ahead = s.at(place - 1, c).own[p];
                        if (ahead >= 0 && s.at(place, c).own[p] == ahead) line.get(c).own[p] = ahead;
                    }
                }
                fresh.add(line);
            }
            s.grid.addAll(place, fresh);
            for (int k = 0; k < n; k++) s.rowOwn.add(place, Sheet.unset());
            for (Rule r : s.rules) {
                if (r.top >= place) {
                    r.top += n;
                    r.bottom += n;
                } else if (r.bottom >= place) {
                    r.bottom += n;
                }
            }
            return s.high();
        } finally {
            if (way == 1) s.transpose();
        }
    }

    private static int remove(Sheet s, int way, int first, int last) {
        good(in(way, 0, 1));
        if (way == 1) s.transpose();
        try {
            good(first >= 0 && first <= last && last < s.high());
            want(last - first + 1 < s.high(), STATE);
            for (Rule r : new ArrayList<>(s.rules)) {
                List<Integer> left = new ArrayList<>();
                int place = 0;
                for (int i = 0; i < s.high(); i++) {
                    if (in(i, first, last)) continue;
                    if (in(i, r.top, r.bottom)) left.add(place);
                    place++;
                }
                if (left.isEmpty()) {
                    s.rules.remove(r);
                } else {
                    r.top = left.get(0);
                    r.bottom = left.get(left.size() - 1);
                }
            }
            s.grid.subList(first, last + 1).clear();
            s.rowOwn.subList(first, last + 1).clear();
            return s.high();
        } finally {
            if (way == 1) s.transpose();
        }
    }

    private static void copy(Sheet s, Area from, Area to, int turned) {
        Area f = s.area(from), t = s.area(to);
        good(in(turned, 0, 1));
        Sheet old = s.copy();
        for (int i = 0; i < t.high(); i++) {
            for (int j = 0; j < t.wide(); j++) {
                int r = turned == 0 ? i % f.high() : j % f.high();
                int c = turned == 0 ? j % f.wide() : i % f.wide();
                s.at(t.top + i, t.left + j).own = old.at(f.top + r, f.left + c).own.clone();
            }
        }
    }

    private static int tidy(Sheet s, int p) {
        good(in(p, 0, 3));
        int n = 0;
        for (int r = 0; r < s.high(); r++) {
            for (int c = 0; c < s.wide(); c++) {
                if (s.at(r, c).own[p] >= 0 && s.at(r, c).own[p] == s.beneath(r, c, p)) {
                    s.at(r, c).own[p] = -1;
                    n++;
                }
            }
        }
        return n;
    }

    private static void sort(Sheet s, int ab, int column, int falling) {
        int first = ab / 100, last = ab % 100;
        good(ab >= 0 && first <= last && last < s.high() && in(column, 0, s.wide() - 1) && in(falling, 0, 1));
        List<Integer> order = new ArrayList<>();
        for (int r = first; r <= last; r++) order.add(r);
        order.sort((a, b) -> {
            int d = Integer.compare(s.at(a, column).value, s.at(b, column).value);
            return falling == 1 ? -d : d;
        });
        List<List<Cell>> cells = new ArrayList<>();
        List<int[]> own = new ArrayList<>();
        for (int r : order) {
            cells.add(s.grid.get(r));
            own.add(s.rowOwn.get(r));
        }
        for (int k = 0; k < order.size(); k++) {
            s.grid.set(first + k, cells.get(k));
            s.rowOwn.set(first + k, own.get(k));
        }
    }

    private static void move(Sheet s, int way, int ab, int place) {
        good(in(way, 0, 1) && ab >= 0);
        int first = ab / 100, last = ab % 100;
        int size = way == 0 ? s.high() : s.wide();
        good(first <= last && last < size && in(place, 0, size - (last - first + 1)));
        List<Rule> rules = s.rules;
        s.rules = new ArrayList<>();
        if (way == 1) s.transpose();
        List<List<Cell>> lines = new ArrayList<>(s.grid.subList(first, last + 1));
        List<int[]> own = new ArrayList<>(s.rowOwn.subList(first, last + 1));
        s.grid.subList(first, last + 1).clear();
        s.rowOwn.subList(first, last + 1).clear();
        s.grid.addAll(place, lines);
        s.rowOwn.addAll(place, own);
        if (way == 1) s.transpose();
        s.rules = rules;
    }

    // ---- texts

    /** A text that can't be read, with the place of its fault. */
    static final class Fault extends RuntimeException {
        private static final long serialVersionUID = 1;
        final int place;

        Fault(int place) {
            super(null, null, false, false);
            this.place = place;
        }
    }

    static final class Reader {
        private final String text;
        private int at, open;

        Reader(String text) {
            this.text = text;
        }

        /** The token that comes next, "" at the end; the place is left ahead of it. */
        String peek() {
            while (at < text.length() && text.charAt(at) == ' ') at++;
            if (at == text.length()) return "";
            int end = at + 1;
            String kind = kind(text.charAt(at));
            while (!kind.equals("sign") && end < text.length() && kind(text.charAt(end)).equals(kind)) end++;
            return text.substring(at, end);
        }

        static String kind(char c) {
            return c >= 'a' && c <= 'z' ? "word" : c >= '0' && c <= '9' ? "number" : "sign";
        }

        void need(boolean is) {
            peek();
            if (!is) throw new Fault(at);
        }

        String take() {
            String token = peek();
            at += token.length();
            return token;
        }

        void take(String token) {
            need(peek().equals(token));
            take();
        }

        boolean takeIf(String token) {
            boolean is = peek().equals(token);
            if (is) take();
            return is;
        }

        String takeOneOf(String... tokens) {
            for (String t : tokens) {
                if (peek().equals(t)) return take();
            }
            throw new Fault(at);
        }

        int number(int digits) {
            String token = peek();
            need(!token.isEmpty() && kind(token.charAt(0)).equals("number") && token.length() <= digits);
            return Integer.parseInt(take());
        }

        void opens(String token) {
            need(peek().equals(token) && open < 4);
            take();
            open++;
        }

        void shut() {
            open--;
        }
    }

    interface Node {
        int work(Sheet s, Rule rule, int r, int c);
    }

    private static Node condition(Reader in) {
        Node whole = both(in);
        while (in.takeIf("or")) {
            Node a = whole, b = both(in);
            whole = (s, k, r, c) -> a.work(s, k, r, c) != 0 || b.work(s, k, r, c) != 0 ? 1 : 0;
        }
        return whole;
    }

    private static Node both(Reader in) {
        Node whole = not(in);
        while (in.takeIf("and")) {
            Node a = whole, b = not(in);
            whole = (s, k, r, c) -> a.work(s, k, r, c) != 0 && b.work(s, k, r, c) != 0 ? 1 : 0;
        }
        return whole;
    }

    private static Node not(Reader in) {
        if (in.peek().equals("not")) {
            in.opens("not");
            Node a = not(in);
            in.shut();
            return (s, k, r, c) -> a.work(s, k, r, c) == 0 ? 1 : 0;
        }
        if (in.peek().equals("[")) {
            in.opens("[");
            Node a = condition(in);
            in.take("]");
            in.shut();
            return a;
        }
        Node a = sum(in);
        String sign = in.takeOneOf("<", "=", ">");
        Node b = sum(in);
        return (s, k, r, c) -> {
            int d = Integer.compare(a.work(s, k, r, c), b.work(s, k, r, c));
            return sign.equals("<") && d < 0 || sign.equals("=") && d == 0 || sign.equals(">") && d > 0 ? 1 : 0;
        };
    }

    private static Node sum(Reader in) {
        Node whole = part(in);
        while (in.peek().equals("+") || in.peek().equals("-")) {
            boolean less = in.take().equals("-");
            Node a = whole, b = part(in);
            whole = (s, k, r, c) -> less ? Math.subtractExact(a.work(s, k, r, c), b.work(s, k, r, c))
                    : Math.addExact(a.work(s, k, r, c), b.work(s, k, r, c));
        }
        return whole;
    }

    private static Node part(Reader in) {
        Node whole = unit(in);
        while (in.takeIf("*")) {
            Node a = whole, b = unit(in);
            whole = (s, k, r, c) -> Math.multiplyExact(a.work(s, k, r, c), b.work(s, k, r, c));
        }
        return whole;
    }

    private static Node unit(Reader in) {
        String next = in.peek();
        if (next.equals("-")) {
            in.opens("-");
            Node a = unit(in);
            in.shut();
            return (s, k, r, c) -> Math.negateExact(a.work(s, k, r, c));
        }
        if (next.equals("(")) {
            in.opens("(");
            Node a = sum(in);
            in.take(")");
            in.shut();
            return a;
        }
        if (!next.isEmpty() && Reader.kind(next.charAt(0)).equals("number")) {
            int n = in.number(4);
            return (s, k, r, c) -> n;
        }
        String word = in.takeOneOf("value", "row", "column", "left", "above", "sum", "most", "least", "like", "greater");
        return (s, k, r, c) -> word(word, s, k, r, c);
    }

    private static int word(String word, Sheet s, Rule k, int r, int c) {
        int own = s.at(r, c).value;
        List<Integer> values = new ArrayList<>();
        for (int i = k.top; i <= k.bottom; i++) {
            for (int j = k.left; j <= k.right; j++) values.add(s.at(i, j).value);
        }
        switch (word) {
            case "value": return own;
            case "row": return r;
            case "column": return c;
            case "left": return c == 0 ? 0 : s.at(r, c - 1).value;
            case "above": return r == 0 ? 0 : s.at(r - 1, c).value;
            case "sum": return values.stream().mapToInt(v -> v).sum();
            case "most": return Collections.max(values);
            case "least": return Collections.min(values);
            case "like": return Collections.frequency(values, own);
            default: return (int) values.stream().filter(v -> v > own).count();
        }
    }

    static final class Step {
        String what, way;
        int property, v, a, b;
        int[] from, to;
        List<Step> body;
    }

    private static final String[] NAMES = {"face", "size", "ink", "fill"};

    private static int name(Reader in) {
        return List.of(NAMES).indexOf(in.takeOneOf(NAMES));
    }

    private static int what(Reader in) {
        return in.takeIf("none") ? -1 : in.number(2);
    }

    private static int[] place(Reader in) {
        String letter = in.peek();
        in.need(letter.length() == 1 && letter.charAt(0) >= 'a' && letter.charAt(0) <= 'p');
        in.take();
        return new int[] {in.number(2), letter.charAt(0) - 'a'};
    }

    private static int[] areaText(Reader in) {
        int[] a = place(in);
        int[] b = in.takeIf(":") ? place(in) : a;
        return new int[] {a[0], a[1], b[0], b[1]};
    }

    private static int moveText(Reader in) {
        return in.takeIf("-") ? -in.number(2) : in.number(2);
    }

    private static List<Step> steps(Reader in) {
        List<Step> steps = new ArrayList<>();
        while (!in.peek().isEmpty() && !in.peek().equals("}")) steps.add(step(in));
        return steps;
    }

    private static Step step(Reader in) {
        Step s = new Step();
        s.what = in.takeOneOf("paint", "rows", "columns", "insert", "remove", "copy", "turn", "tidy", "shift", "repeat");
        switch (s.what) {
            case "paint":
                s.property = name(in);
                s.v = what(in);
                s.to = areaText(in);
                break;
            case "rows":
            case "columns":
                s.property = name(in);
                s.v = what(in);
                s.a = in.number(2);
                in.take("to");
                s.b = in.number(2);
                break;
            case "insert":
            case "remove":
                s.way = in.takeOneOf("rows", "columns");
                s.a = in.number(2);
                in.take(s.what.equals("insert") ? "by" : "to");
                s.b = in.number(2);
                break;
            case "copy":
            case "turn":
                s.from = areaText(in);
                in.take("to");
                s.to = areaText(in);
                break;
            case "tidy":
                s.property = name(in);
                break;
            case "shift":
                s.a = moveText(in);
                s.b = moveText(in);
                break;
            default:
                s.a = in.number(2);
                in.opens("{");
                s.body = steps(in);
                in.take("}");
                in.shut();
                return s;
        }
        in.take(";");
        return s;
    }

    // ---- programs that run

    private static final class Running {
        final Sheet sheet;
        int begun, down, right;

        Running(Sheet sheet) {
            this.sheet = sheet;
        }

        Area area(int[] a) {
            return new Area(a[0] + down, a[1] + right, a[2] + down, a[3] + right);
        }

        void all(List<Step> steps) {
            for (Step s : steps) one(s);
        }

        void one(Step s) {
            want(begun < 60, BAD);
            begun++;
            int way = "columns".equals(s.way) || s.what.equals("columns") ? 1 : 0;
            int origin = way == 0 ? down : right;
            switch (s.what) {
                case "paint": paint(sheet, s.property, s.v, area(s.to)); break;
                case "rows":
                case "columns": lines(sheet, way, s.property, s.v, s.a + origin, s.b + origin); break;
                case "insert": insert(sheet, way, s.a + origin, s.b); break;
                case "remove": remove(sheet, way, s.a + origin, s.b + origin); break;
                case "copy": copy(sheet, area(s.from), area(s.to), 0); break;
                case "turn": copy(sheet, area(s.from), area(s.to), 1); break;
                case "tidy": tidy(sheet, s.property); break;
                case "shift":
                    down += s.a;
                    right += s.b;
                    break;
                default:
                    for (int k = 0; k < s.a; k++) all(s.body);
            }
        }
    }

    // ---- the calls

    int call(String name, int... a) {
        try {
            return answer(name, a);
        } catch (Refused r) {
            return r.answer;
        }
    }

    private int request(Sheet next, int answer) {
        past.add(now);
        if (past.size() > 30) past.remove(0);
        future.clear();
        now = next;
        return answer;
    }

    private int answer(String name, int[] a) {
        switch (name) {
            case "paint": case "lines": case "ground": case "value": case "insert": case "remove": case "copy":
            case "sort": case "move": case "tidy": case "rule": case "drop": case "bring": case "paste": case "run":
                Sheet next = now.copy();
                int answer = change(next, name, a);
                return request(next, answer);
            case "undo":
                want(!past.isEmpty(), STATE);
                future.add(now);
                now = past.remove(past.size() - 1);
                return past.size();
            case "redo":
                want(!future.isEmpty(), STATE);
                past.add(now);
                now = future.remove(future.size() - 1);
                return future.size();
            case "before": return before(a[0], a[1], a[2]);
            case "row": case "put": case "element": case "clip": return shelf(name, a);
            case "feed": case "text": case "tests": return program(name, a);
            case "image": case "back": case "differs": case "count": return image(name, a);
            default: return look(name, a);
        }
    }

    private int change(Sheet s, String name, int[] a) {
        switch (name) {
            case "paint":
                paint(s, a[0], a[1], Area.of(a[2]));
                return 1;
            case "lines":
                good(a[3] >= 0);
                lines(s, a[0], a[1], a[2], a[3] / 100, a[3] % 100);
                return 1;
            case "ground":
                good(in(a[0], 0, 3) && in(a[1], 0, 9));
                s.ground[a[0]] = a[1];
                return 1;
            case "value":
                int[] at = s.rc(a[0]);
                good(in(a[1], -999, 999));
                s.at(at[0], at[1]).value = a[1];
                return 1;
            case "insert": return insert(s, a[0], a[1], a[2]);
            case "remove":
                good(a[1] >= 0);
                return remove(s, a[0], a[1] / 100, a[1] % 100);
            case "copy":
                copy(s, Area.of(a[0]), Area.of(a[1]), a[2]);
                return 1;
            case "sort":
                sort(s, a[0], a[1], a[2]);
                return 1;
            case "move":
                move(s, a[0], a[1], a[2]);
                return 1;
            case "tidy": return tidy(s, a[0]);
            case "rule": return rule(s, a);
            case "drop":
                good(in(a[0], 0, s.rules.size() - 1));
                s.rules.remove(a[0]);
                return s.rules.size();
            case "bring":
                good(in(a[0], 0, s.rules.size() - 1) && in(a[1], 0, s.rules.size() - 1));
                s.rules.add(a[1], s.rules.remove(a[0]));
                return 1;
            case "paste": return paste(s, a);
            default:
                good(in(a[0], 0, programs.size() - 1));
                return run(s, a[0]);
        }
    }

    private int rule(Sheet s, int[] a) {
        good(in(a[0], 0, s.rules.size()) && in(a[2], 0, 39) && in(a[3], 0, 1));
        Area area = s.area(a[1]);
        want(s.rules.size() < 6, FULL);
        Reader in = new Reader(tape);
        tape = "";
        Rule r = new Rule();
        try {
            r.condition = condition(in);
            in.take("");
        } catch (Fault f) {
            throw new Refused(-100 - f.place);
        }
        r.top = area.top;
        r.left = area.left;
        r.bottom = area.bottom;
        r.right = area.right;
        r.property = a[2] / 10;
        r.number = a[2] % 10;
        r.stops = a[3];
        s.rules.add(a[0], r);
        return s.rules.size();
    }

    private int paste(Sheet s, int[] a) {
        good(in(a[0], 0, 3) && in(a[2], 1, 12) && in(a[3], 0, 3));
        int[] at = s.rc(a[4]);
        short[] row = shelves[a[0]];
        want(row != null, -11);
        want(a[1] >= 0 && a[1] + 5L * a[2] <= row.length, -13);
        for (int k = 0; k < a[2]; k++) {
            int i = a[1] + 5 * k;
            good(in(row[i + 4], 0, 9));
            paint(s, a[3], row[i + 4], new Area(at[0] + row[i], at[1] + row[i + 1], at[0] + row[i + 2], at[1] + row[i + 3]));
        }
        return a[2];
    }

    private int run(Sheet s, int program) {
        Running running = new Running(s);
        try {
            running.all(programs.get(program));
            return running.begun;
        } catch (Refused r) {
            throw new Refused(-100 - running.begun);
        }
    }

    private int before(int k, int cell, int p) {
        good(in(k, 0, past.size()) && cell >= 0 && cell / 100 < 16 && cell % 100 < 16 && in(p, 0, 3));
        Sheet s = k == past.size() ? now : past.get(k);
        if (cell / 100 >= s.high() || cell % 100 >= s.wide()) return NONE;
        return s.shown(cell / 100, cell % 100, p);
    }

    private int shelf(String name, int[] a) {
        if (name.equals("element")) {
            return !in(a[0], 0, 3) || shelves[a[0]] == null || !in(a[1], 0, shelves[a[0]].length - 1) ? VOID
                    : shelves[a[0]][a[1]];
        }
        good(in(a[0], 0, 3));
        if (name.equals("row")) {
            good(a[1] <= 60);
            want(a[1] >= 0, -14);
            shelves[a[0]] = new short[a[1]];
            return 1;
        }
        if (name.equals("put")) {
            want(shelves[a[0]] != null, -11);
            want(in(a[1], 0, shelves[a[0]].length - 1), -13);
            shelves[a[0]][a[1]] = (short) a[2];
            return 1;
        }
        good(in(a[2], 0, 3));
        Area told = now.area(a[3]);
        want(shelves[a[0]] != null, -11);
        List<Integer> out = new ArrayList<>();
        for (int[] rect : now.cover(a[2]).values()) {
            Area r = Area.of(rect[0]);
            int top = Math.max(r.top, told.top), left = Math.max(r.left, told.left);
            int bottom = Math.min(r.bottom, told.bottom), right = Math.min(r.right, told.right);
            if (top > bottom || left > right) continue;
            out.addAll(List.of(top - told.top, left - told.left, bottom - told.top, right - told.left, rect[1]));
        }
        want(a[1] >= 0 && (long) a[1] + out.size() <= shelves[a[0]].length, -13);
        for (int i = 0; i < out.size(); i++) shelves[a[0]][a[1] + i] = (short) (int) out.get(i);
        return out.size() / 5;
    }

    private int program(String name, int[] a) {
        if (name.equals("feed")) {
            good(in(a[0], 1, 4));
            want(tape.length() + a[0] <= 200, FULL);
            for (int k = 0; k < a[0]; k++) tape += (char) (a[1] >> 8 * k & 255);
            return tape.length();
        }
        if (name.equals("text")) {
            want(programs.size() < 4, FULL);
            Reader in = new Reader(tape);
            tape = "";
            try {
                List<Step> steps = steps(in);
                in.take("");
                programs.add(steps);
            } catch (Fault f) {
                return -100 - f.place;
            }
            return programs.size() - 1;
        }
        good(in(a[0], 0, programs.size() - 1) && in(a[1], 0, 3));
        Sheet then = now.copy();
        int answer;
        try {
            answer = run(then, a[0]);
        } catch (Refused r) {
            answer = r.answer;
            then = now;
        }
        if (a[1] == 0) return answer;
        if (a[1] == 1) return then.cover(0).size() + then.cover(1).size() + then.cover(2).size() + then.cover(3).size();
        return a[1] == 2 ? 100 * then.high() + then.wide() : then.looks().size();
    }

    private int image(String name, int[] a) {
        switch (name) {
            case "image":
                image = now.copy();
                return 1;
            case "back":
                want(image != null, STATE);
                now = image.copy();
                past.clear();
                future.clear();
                return 1;
            case "differs":
                want(image != null, STATE);
                if (image.high() != now.high() || image.wide() != now.wide()) return NONE;
                int n = 0;
                for (int r = 0; r < now.high(); r++) {
                    for (int c = 0; c < now.wide(); c++) n += now.look(r, c).equals(image.look(r, c)) ? 0 : 1;
                }
                return n;
            default:
                good(in(a[0], 0, 6));
                return new int[] {now.high(), now.wide(), now.rules.size(), past.size(), future.size(),
                        programs.size(), tape.length()}[a[0]];
        }
    }

    private int look(String name, int[] a) {
        switch (name) {
            case "shown": case "under": case "by": case "valueAt": case "holds": case "alike": return cell(name, a);
            case "ruleOf": return ruleOf(a[0], a[1]);
            case "idle":
                int bits = 0;
                for (int k = 0; k < now.rules.size(); k++) bits |= ruleOf(k, 5) == 0 ? 1 << k : 0;
                return bits;
            case "all": case "many": case "greatest": return area(name, a);
            case "looks": return now.looks().size();
            case "stripes": {
                good(in(a[0], 0, now.high() - 1));
                int n = 1;
                for (int c = 1; c < now.wide(); c++) n += now.look(a[0], c).equals(now.look(a[0], c - 1)) ? 0 : 1;
                return n;
            }
            case "strokes":
                good(in(a[0], 0, now.high() - 1) && in(a[1], 0, 3));
                return strokes(now, a[0], 0, now.wide() - 1, -1, a[1], new HashMap<>());
            case "needless":
                return tidy(now.copy(), a[0]);
            default: return cover(name, a);
        }
    }

    private int cell(String name, int[] a) {
        if (name.equals("valueAt")) {
            if (a[0] < 0 || a[0] / 100 >= now.high() || a[0] % 100 >= now.wide()) return VOID;
            return now.at(a[0] / 100, a[0] % 100).value;
        }
        int[] at = now.rc(name.equals("holds") ? a[1] : a[0]);
        if (name.equals("holds")) {
            good(in(a[0], 0, now.rules.size() - 1));
            return now.holds(now.rules.get(a[0]), at[0], at[1]) ? 1 : 0;
        }
        if (name.equals("alike")) {
            int n = 0;
            for (int r = 0; r < now.high(); r++) {
                for (int c = 0; c < now.wide(); c++) n += now.look(r, c).equals(now.look(at[0], at[1])) ? 1 : 0;
            }
            return n;
        }
        good(in(a[1], 0, 3));
        if (name.equals("shown")) return now.shown(at[0], at[1], a[1]);
        if (name.equals("by")) return now.by(at[0], at[1], a[1]);
        good(in(a[2], 0, 4));
        return new int[] {now.plain(at[0], at[1], a[1]), now.at(at[0], at[1]).own[a[1]], now.rowOwn.get(at[0])[a[1]],
                now.columnOwn.get(at[1])[a[1]], now.beneath(at[0], at[1], a[1])}[a[2]];
    }

    private int ruleOf(int rank, int what) {
        good(in(rank, 0, now.rules.size() - 1) && in(what, 0, 5));
        Rule rule = now.rules.get(rank);
        if (what == 0) return new Area(rule.top, rule.left, rule.bottom, rule.right).number();
        if (what <= 3) return new int[] {rule.property, rule.number, rule.stops}[what - 1];
        int n = 0;
        for (int r = 0; r < now.high(); r++) {
            for (int c = 0; c < now.wide(); c++) {
                boolean is = what == 4 ? now.holds(rule, r, c) : now.by(r, c, rule.property) == 4 + rank;
                n += is ? 1 : 0;
            }
        }
        return n;
    }

    private int cover(String name, int[] a) {
        if (name.equals("lies")) {
            int[] at = now.rc(a[0]);
            good(in(a[1], 0, 3));
            int k = 0;
            for (int[] rect : now.cover(a[1]).values()) {
                if (Area.of(rect[0]).has(at[0], at[1])) return k;
                k++;
            }
            return NONE;
        }
        if (name.equals("drawn")) return drawn(a[0], a[1], a[2], a[3]);
        good(in(a[0], 0, 3));
        if (name.equals("rects")) return now.cover(a[0]).size();
        if (name.equals("rect")) {
            good(a[1] >= 0 && in(a[2], 0, 1));
            List<int[]> rects = new ArrayList<>(now.cover(a[0]).values());
            return a[1] < rects.size() ? rects.get(a[1])[a[2]] : NONE;
        }
        Sheet then = now.copy();
        paint(then, a[0], a[1], Area.of(a[2]));
        return then.cover(a[0]).size();
    }

    private int drawn(int seed, int n, int p, int what) {
        good(in(n, 0, 30) && in(p, 0, 3) && in(what, 0, 1));
        Sheet then = now.copy();
        int[] among = {then.high(), then.high(), then.wide(), then.wide(), 11};
        int z = seed;
        for (int k = 0; k < n; k++) {
            int[] five = new int[5];
            for (int j = 0; j < 5; j++) {
                z = (int) (z * 1103515245L + 12345L);
                five[j] = (z >>> 9) % among[j];
            }
            paint(then, p, five[4] - 1, new Area(Math.min(five[0], five[1]), Math.min(five[2], five[3]),
                    Math.max(five[0], five[1]), Math.max(five[2], five[3])));
        }
        if (what == 0) return then.cover(p).size();
        int set = 0;
        for (List<Cell> line : then.grid) {
            for (Cell c : line) set += c.own[p] >= 0 ? 1 : 0;
        }
        return set;
    }

    private int area(String name, int[] a) {
        good(in(a[0], 0, 3));
        if (name.equals("all")) {
            Area told = now.area(a[1]);
            Set<Integer> seen = new HashSet<>();
            for (int r = told.top; r <= told.bottom; r++) {
                for (int c = told.left; c <= told.right; c++) seen.add(now.shown(r, c, a[0]));
            }
            return seen.size() == 1 ? seen.iterator().next() : MIXED;
        }
        good(in(a[1], 0, 9));
        int[][] is = new int[now.high()][now.wide()];
        for (int r = 0; r < now.high(); r++) {
            for (int c = 0; c < now.wide(); c++) is[r][c] = now.shown(r, c, a[0]) == a[1] ? 1 : 0;
        }
        if (name.equals("many")) {
            Area told = now.area(a[2]);
            int n = 0;
            for (int r = told.top; r <= told.bottom; r++) {
                for (int c = told.left; c <= told.right; c++) n += is[r][c];
            }
            return n;
        }
        good(in(a[2], 0, 1));
        int best = 0, number = NONE;
        for (int t = 0; t < now.high(); t++) {
            for (int l = 0; l < now.wide(); l++) {
                for (int b = t; b < now.high(); b++) {
                    for (int r = l; r < now.wide() && full(is, t, l, b, r); r++) {
                        Area found = new Area(t, l, b, r);
                        int cells = found.high() * found.wide();
                        if (cells > best || cells == best && found.number() < number) {
                            best = cells;
                            number = found.number();
                        }
                    }
                }
            }
        }
        return a[2] == 0 ? best : number;
    }

    private static boolean full(int[][] is, int top, int left, int bottom, int right) {
        for (int r = top; r <= bottom; r++) {
            for (int c = left; c <= right; c++) {
                if (is[r][c] == 0) return false;
            }
        }
        return true;
    }

    /** Fewest paints that make cells a to b of the row, all of which are `was` till now. */
    private static int strokes(Sheet s, int row, int a, int b, int was, int p, Map<Integer, Integer> known) {
        if (a > b) return 0;
        int v = s.at(row, a).own[p];
        if (v == was) return strokes(s, row, a + 1, b, was, p, known);
        int key = (a * 16 + b) * 16 + was + 1;
        Integer found = known.get(key);
        if (found != null) return found;
        int best = Integer.MAX_VALUE;
        for (int k = a; k <= b; k++) {
            if (s.at(row, k).own[p] != v) continue;
            best = Math.min(best, 1 + strokes(s, row, a, k, v, p, known) + strokes(s, row, k + 1, b, was, p, known));
        }
        known.put(key, best);
        return best;
    }
}

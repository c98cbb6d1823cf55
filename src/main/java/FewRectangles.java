import java.util.Arrays;

/**
 * Formatting of a sheet's cells kept as few rectangles.
 *
 * Every public call looks at its arguments first and answers a refusal before anything changes.
 * A request is tried on a draft of the sheet; only a draft that came through becomes the sheet,
 * so that neither a refused call nor a program that breaks leaves a trace.
 */
public final class FewRectangles {
    public static final int NONE = -1, BAD = -2, STATE = -3, FULL = -4, MIXED = -5, VOID = -2000000000;

    private static final int NOTHING_THERE = -11, NO_PLACE = -13, NO_SIZE = -14, FAULTY = -100;
    private static final int SIDE = 16, CELLS = 256, FIRST_SIDE = 8, PROPERTIES = 4, MOST_VALUE = 999;
    private static final int ROWS = 0, COLUMNS = 1;
    private static final int FROM_GROUND = 0, FROM_COLUMN = 1, FROM_ROW = 2, FROM_CELL = 3, FROM_RULE = 4;
    private static final int MOST_RULES = 6, MOST_UNDONE = 30, MOST_DRAWN = 30, MOST_OPEN = 4;
    private static final int MOST_PROGRAMS = 4, MOST_STEPS = 60, TAPE_BYTES = 200, WORD_BYTES = 4;
    private static final int SHELVES = 4, SHELF_SHORTS = 60, FIVE = 5, MOST_FIVES = 12;

    private final History history = new History();
    private final Editor editor = new Editor();
    private final Runner runner = new Runner(editor);
    private final Probe probe = new Probe();
    private final View view = new View();
    private final View thoughtView = new View();
    private final Cover cover = new Cover();
    private final Tape tape = new Tape();
    private final ConditionReader conditionReader = new ConditionReader(tape);
    private final ProgramReader programReader = new ProgramReader(tape);
    private final int[][] programs = new int[MOST_PROGRAMS][];
    private final short[] shelfShorts = new short[SHELVES * SHELF_SHORTS];
    private final int[] shelfSizes = new int[SHELVES];
    private final Sheet imageSheet = new Sheet();
    private boolean imageKept;
    private boolean viewStale = true;
    private int programCount;

    public FewRectangles() {
        Arrays.fill(shelfSizes, NONE);
    }

    // ---- requests

    public int paint(int property, int v, int rect) {
        return settle(editor.paintRect(history.draftOfNow(), property, v, rect));
    }

    public int lines(int way, int property, int v, int ab) {
        return settle(editor.setLines(history.draftOfNow(), way, property, v, ab));
    }

    public int ground(int property, int v) {
        return settle(editor.setGround(history.draftOfNow(), property, v));
    }

    public int value(int cell, int v) {
        return settle(editor.setValue(history.draftOfNow(), cell, v));
    }

    public int insert(int way, int place, int n) {
        return settle(editor.insertLines(history.draftOfNow(), way, place, n));
    }

    public int remove(int way, int ab) {
        return settle(editor.removeLines(history.draftOfNow(), way, ab));
    }

    public int copy(int from, int to, int turned) {
        return settle(editor.copyRect(history.draftOfNow(), from, to, turned));
    }

    public int sort(int ab, int column, int falling) {
        return settle(editor.sortRows(history.draftOfNow(), ab, column, falling));
    }

    public int move(int way, int ab, int place) {
        return settle(editor.moveLines(history.draftOfNow(), way, ab, place));
    }

    public int tidy(int property) {
        return settle(editor.clearNeedless(history.draftOfNow(), property));
    }

    public int rule(int rank, int rect, int pv, int stops) {
        Sheet draft = history.draftOfNow();
        if (rank < 0 || rank > draft.ruleCount || !draft.hasRect(rect)) return BAD;
        if (pv < 0 || pv >= 10 * PROPERTIES || !isFlag(stops)) return BAD;
        if (draft.ruleCount >= MOST_RULES) return FULL;
        int[] code = conditionReader.read();
        int fault = tape.fault;
        tape.clear();
        if (fault != NONE) return FAULTY - fault;
        return settle(draft.putRule(rank, rect, pv, stops, code));
    }

    public int drop(int rank) {
        return settle(history.draftOfNow().dropRule(rank));
    }

    public int bring(int rank, int to) {
        return settle(history.draftOfNow().bringRule(rank, to));
    }

    public int paste(int shelf, int i, int n, int property, int cell) {
        Sheet draft = history.draftOfNow();
        if (!isShelf(shelf) || n < 1 || n > MOST_FIVES || !isProperty(property) || !draft.hasCell(cell)) return BAD;
        if (sizeOf(shelf) < 0) return NOTHING_THERE;
        if (i < 0 || i > sizeOf(shelf) - FIVE * n) return NO_PLACE;
        for (int k = 0; k < n; k++) {
            int at = i + FIVE * k;
            int number = shortOf(shelf, at + 4);
            if (!isNumber(number)) return BAD;
            if (editor.paintRect(draft, property, number, pastedRect(shelf, at, cell)) < 0) return BAD;
        }
        return settle(n);
    }

    public int run(int program) {
        int[] code = programOf(program);
        return code == null ? BAD : settle(runner.runOn(history.draftOfNow(), code));
    }

    // ---- history

    public int undo() {
        if (history.undoable == 0) return STATE;
        viewStale = true;
        return history.stepBack();
    }

    public int redo() {
        if (history.redoable == 0) return STATE;
        viewStale = true;
        return history.stepOn();
    }

    public int before(int k, int cell, int property) {
        if (k < 0 || k > history.undoable || !isProperty(property)) return BAD;
        if (cell < 0 || cell / 100 >= SIDE || cell % 100 >= SIDE) return BAD;
        Sheet then = history.stateAt(k);
        if (!then.hasCell(cell)) return NONE;
        int row = cell / 100, column = cell % 100;
        int source = then.sourceOf(probe.maskAt(then, row, column), property, row, column);
        return then.numberFrom(source, property, row, column);
    }

    // ---- cells

    public int shown(int cell, int property) {
        if (!now().hasCell(cell) || !isProperty(property)) return BAD;
        return freshView().numberAt(property, cell / 100, cell % 100);
    }

    public int under(int cell, int property, int what) {
        Sheet sheet = now();
        if (!sheet.hasCell(cell) || !isProperty(property)) return BAD;
        int row = cell / 100, column = cell % 100;
        switch (what) {
            case 0: return sheet.numberFrom(sheet.sourceOf(0, property, row, column), property, row, column);
            case 1: return sheet.cellFormat(property, row, column);
            case 2: return sheet.lineFormat(ROWS, property, row);
            case 3: return sheet.lineFormat(COLUMNS, property, column);
            case 4: return sheet.beneath(property, row, column);
            default: return BAD;
        }
    }

    public int by(int cell, int property) {
        if (!now().hasCell(cell) || !isProperty(property)) return BAD;
        return freshView().sourceAt(property, cell / 100, cell % 100);
    }

    public int valueAt(int cell) {
        Sheet sheet = now();
        return sheet.hasCell(cell) ? sheet.valueOf(cell / 100, cell % 100) : VOID;
    }

    public int holds(int rank, int cell) {
        Sheet sheet = now();
        if (!sheet.hasRule(rank) || !sheet.hasCell(cell)) return BAD;
        return freshView().maskAt(cell / 100, cell % 100) >> rank & 1;
    }

    public int ruleOf(int rank, int what) {
        Sheet sheet = now();
        if (!sheet.hasRule(rank)) return BAD;
        Rule rule = sheet.ruleAt(rank);
        switch (what) {
            case 0: return rectCode(rule.top, rule.left, rule.bottom, rule.right);
            case 1: return rule.property;
            case 2: return rule.number;
            case 3: return rule.stops;
            case 4: return freshView().cellsHeldBy(rank);
            case 5: return freshView().cellsShownBy(rank, rule.property);
            default: return BAD;
        }
    }

    public int idle() {
        Sheet sheet = now();
        View fresh = freshView();
        int bits = 0;
        for (int rank = 0; rank < sheet.ruleCount; rank++) {
            if (fresh.cellsShownBy(rank, sheet.ruleAt(rank).property) == 0) bits |= 1 << rank;
        }
        return bits;
    }

    // ---- covers

    public int rects(int property) {
        return isProperty(property) ? cover.take(now(), property) : BAD;
    }

    public int rect(int property, int k, int what) {
        if (!isProperty(property) || k < 0 || !isFlag(what)) return BAD;
        if (k >= cover.take(now(), property)) return NONE;
        return what == 0 ? cover.rectNumber(k) : peek(cover.numbers, k);
    }

    public int lies(int cell, int property) {
        if (!now().hasCell(cell) || !isProperty(property)) return BAD;
        cover.take(now(), property);
        return peek(cover.owners, placeOf(cell / 100, cell % 100));
    }

    public int would(int property, int v, int rect) {
        Sheet sheet = now();
        if (!isProperty(property) || !isFormat(v) || !sheet.hasRect(rect)) return BAD;
        cover.copyLayer(sheet, property);
        cover.stroke(v, topOf(rect), leftOf(rect), bottomOf(rect), rightOf(rect));
        return cover.build();
    }

    public int drawn(int seed, int n, int property, int what) {
        if (n < 0 || n > MOST_DRAWN || !isProperty(property) || !isFlag(what)) return BAD;
        cover.copyLayer(now(), property);
        cover.draw(seed, n);
        return what == 0 ? cover.build() : cover.cellsSet();
    }

    // ---- what is alike

    public int all(int property, int rect) {
        if (!isProperty(property) || !now().hasRect(rect)) return BAD;
        View fresh = freshView();
        int first = fresh.numberAt(property, topOf(rect), leftOf(rect));
        int cells = (bottomOf(rect) - topOf(rect) + 1) * (rightOf(rect) - leftOf(rect) + 1);
        return fresh.cellsShowing(property, first, rect) == cells ? first : MIXED;
    }

    public int many(int property, int v, int rect) {
        if (!isProperty(property) || !isNumber(v) || !now().hasRect(rect)) return BAD;
        return freshView().cellsShowing(property, v, rect);
    }

    public int greatest(int property, int v, int what) {
        if (!isProperty(property) || !isNumber(v) || !isFlag(what)) return BAD;
        View fresh = freshView();
        fresh.findGreatest(property, v);
        return what == 0 ? fresh.greatestCells : fresh.greatestRect;
    }

    public int alike(int cell) {
        if (!now().hasCell(cell)) return BAD;
        View fresh = freshView();
        return fresh.cellsLooking(fresh.lookAt(cell / 100, cell % 100));
    }

    public int looks() {
        return freshView().unlikeLooks();
    }

    public int stripes(int row) {
        if (row < 0 || row >= now().high) return BAD;
        return freshView().stripesOf(row);
    }

    public int strokes(int row, int property) {
        if (row < 0 || row >= now().high || !isProperty(property)) return BAD;
        cover.copyLayer(now(), property);
        return cover.fewestStrokes(row);
    }

    public int needless(int property) {
        return isProperty(property) ? now().needlessCells(property) : BAD;
    }

    // ---- shelves, clips

    public int row(int shelf, int n) {
        if (!isShelf(shelf) || n > SHELF_SHORTS) return BAD;
        if (n < 0) return NO_SIZE;
        poke(shelfSizes, shelf, n);
        for (int i = 0; i < n; i++) setShort(shelf, i, 0);
        return 1;
    }

    public int put(int shelf, int i, int v) {
        if (!isShelf(shelf)) return BAD;
        if (sizeOf(shelf) < 0) return NOTHING_THERE;
        if (i < 0 || i >= sizeOf(shelf)) return NO_PLACE;
        setShort(shelf, i, v);
        return 1;
    }

    public int element(int shelf, int i) {
        if (!isShelf(shelf) || i < 0 || i >= sizeOf(shelf)) return VOID;
        return shortOf(shelf, i);
    }

    public int clip(int shelf, int i, int property, int rect) {
        if (!isShelf(shelf) || !isProperty(property) || !now().hasRect(rect)) return BAD;
        if (sizeOf(shelf) < 0) return NOTHING_THERE;
        int rects = cover.take(now(), property);
        int found = 0;
        for (int k = 0; k < rects; k++) {
            if (cover.meets(k, rect)) found++;
        }
        if (i < 0 || i > sizeOf(shelf) - FIVE * found) return NO_PLACE;
        int at = i;
        for (int k = 0; k < rects; k++) {
            if (cover.meets(k, rect)) {
                writeFive(shelf, at, k, rect);
                at += FIVE;
            }
        }
        return found;
    }

    // ---- programs

    public int feed(int n, int word) {
        if (n < 1 || n > WORD_BYTES) return BAD;
        return tape.size + n > TAPE_BYTES ? FULL : tape.append(n, word);
    }

    public int text() {
        if (programCount >= MOST_PROGRAMS) return FULL;
        int[] code = programReader.read();
        int fault = tape.fault;
        tape.clear();
        if (fault != NONE) return FAULTY - fault;
        if (programCount >= 0 && programCount < programs.length) programs[programCount] = code;
        programCount++;
        return programCount - 1;
    }

    public int tests(int program, int what) {
        int[] code = programOf(program);
        if (code == null || what < 0 || what > 3) return BAD;
        Sheet draft = history.draftOfNow();
        int answer = runner.runOn(draft, code);
        if (what == 0) return answer;
        Sheet then = answer < 0 ? now() : draft;
        if (what == 2) return 100 * then.high + then.wide;
        if (what == 3) {
            thoughtView.take(then, probe);
            return thoughtView.unlikeLooks();
        }
        int rects = 0;
        for (int property = 0; property < PROPERTIES; property++) rects += cover.take(then, property);
        return rects;
    }

    // ---- image

    public int image() {
        imageSheet.become(now());
        imageKept = true;
        return 1;
    }

    public int back() {
        if (!imageKept) return STATE;
        history.startFrom(imageSheet);
        viewStale = true;
        return 1;
    }

    public int differs() {
        if (!imageKept) return STATE;
        Sheet sheet = now();
        if (sheet.high != imageSheet.high || sheet.wide != imageSheet.wide) return NONE;
        thoughtView.take(imageSheet, probe);
        return freshView().cellsUnlike(thoughtView);
    }

    public int count(int what) {
        switch (what) {
            case 0: return now().high;
            case 1: return now().wide;
            case 2: return now().ruleCount;
            case 3: return history.undoable;
            case 4: return history.redoable;
            case 5: return programCount;
            case 6: return tape.size;
            default: return BAD;
        }
    }

    // ---- what the calls share

    private Sheet now() {
        return history.stateAt(history.undoable);
    }

    /** An answer of 0 and more is a request that came through: its draft is the sheet from then on. */
    private int settle(int answer) {
        if (answer >= 0) {
            history.acceptDraft();
            viewStale = true;
        }
        return answer;
    }

    private View freshView() {
        if (viewStale) {
            view.take(now(), probe);
            viewStale = false;
        }
        return view;
    }

    private int[] programOf(int program) {
        return program >= 0 && program < programCount && program < programs.length ? programs[program] : null;
    }

    private static boolean isShelf(int shelf) {
        return shelf >= 0 && shelf < SHELVES;
    }

    private int sizeOf(int shelf) {
        return shelf >= 0 && shelf < shelfSizes.length ? shelfSizes[shelf] : NONE;
    }

    private int shortOf(int shelf, int i) {
        int at = shelf * SHELF_SHORTS + i;
        return at >= 0 && at < shelfShorts.length ? shelfShorts[at] : 0;
    }

    private void setShort(int shelf, int i, int v) {
        int at = shelf * SHELF_SHORTS + i;
        if (at >= 0 && at < shelfShorts.length) shelfShorts[at] = (short) v;
    }

    private int pastedRect(int shelf, int at, int cell) {
        int row = cell / 100, column = cell % 100;
        return rectCode(row + shortOf(shelf, at), column + shortOf(shelf, at + 1),
                row + shortOf(shelf, at + 2), column + shortOf(shelf, at + 3));
    }

    private void writeFive(int shelf, int at, int k, int rect) {
        int top = topOf(rect), left = leftOf(rect);
        setShort(shelf, at, Math.max(peek(cover.tops, k), top) - top);
        setShort(shelf, at + 1, Math.max(peek(cover.lefts, k), left) - left);
        setShort(shelf, at + 2, Math.min(peek(cover.bottoms, k), bottomOf(rect)) - top);
        setShort(shelf, at + 3, Math.min(peek(cover.rights, k), rightOf(rect)) - left);
        setShort(shelf, at + 4, peek(cover.numbers, k));
    }

    // ---- numbers, and rows whose every index is looked at

    private static int peek(int[] row, int i) {
        return i >= 0 && i < row.length ? row[i] : 0;
    }

    private static void poke(int[] row, int i, int v) {
        if (i >= 0 && i < row.length) row[i] = v;
    }

    private static int wrap(int i, int size) {
        return size > 0 ? i % size : 0;
    }

    private static int placeOf(int row, int column) {
        return row * SIDE + column;
    }

    private static boolean isProperty(int property) {
        return property >= 0 && property < PROPERTIES;
    }

    private static boolean isNumber(int v) {
        return v >= 0 && v <= 9;
    }

    private static boolean isFormat(int v) {
        return v == NONE || isNumber(v);
    }

    private static boolean isFlag(int v) {
        return v == 0 || v == 1;
    }

    private static int topOf(int rect) {
        return rect / 1000000;
    }

    private static int leftOf(int rect) {
        return rect / 10000 % 100;
    }

    private static int bottomOf(int rect) {
        return rect / 100 % 100;
    }

    private static int rightOf(int rect) {
        return rect % 100;
    }

    /** NONE, which no call takes for a RECT, where a place can't be told in two digits. */
    private static int rectCode(int top, int left, int bottom, int right) {
        int first = pairCode(top, left), last = pairCode(bottom, right);
        return first < 0 || last < 0 ? NONE : 10000 * first + last;
    }

    private static int pairCode(int first, int last) {
        return first < 0 || first > 99 || last < 0 || last > 99 ? NONE : 100 * first + last;
    }

    /** A rule of a sheet; each sheet has its own, so that a state of the history keeps its rectangles. */
    private static final class Rule {
        int top, left, bottom, right, property, number, stops;
        int[] code;

        void become(Rule other) {
            top = other.top;
            left = other.left;
            bottom = other.bottom;
            right = other.right;
            property = other.property;
            number = other.number;
            stops = other.stops;
            code = other.code;
        }

        boolean covers(int row, int column) {
            return row >= top && row <= bottom && column >= left && column <= right;
        }

        void makeRoom(int way, int place, int n) {
            if (way == ROWS) {
                if (top >= place) top += n;
                if (bottom >= place) bottom += n;
            } else {
                if (left >= place) left += n;
                if (right >= place) right += n;
            }
        }

        /** Whether any of its cells are left. */
        boolean loseLines(int way, int first, int last) {
            if (way == ROWS) {
                top = firstLeft(top, first, last);
                bottom = lastLeft(bottom, first, last);
            } else {
                left = firstLeft(left, first, last);
                right = lastLeft(right, first, last);
            }
            return top <= bottom && left <= right;
        }

        private static int firstLeft(int line, int first, int last) {
            return line < first ? line : Math.max(line, last + 1) - (last - first + 1);
        }

        private static int lastLeft(int line, int first, int last) {
            return line < first ? line : Math.max(line, last) - (last - first + 1);
        }
    }

    /** All that an image keeps and a step of the history brings back. */
    private static final class Sheet {
        int high = FIRST_SIDE, wide = FIRST_SIDE, ruleCount;
        final int[] values = new int[CELLS];
        final int[] cellFormats = new int[PROPERTIES * CELLS];
        final int[] lineFormats = new int[2 * PROPERTIES * SIDE];
        final int[] grounds = new int[PROPERTIES];
        final Rule[] rules = new Rule[MOST_RULES];
        final Rule noRule = new Rule();

        Sheet() {
            Arrays.fill(cellFormats, NONE);
            Arrays.fill(lineFormats, NONE);
            for (int rank = 0; rank < rules.length; rank++) rules[rank] = new Rule();
        }

        void become(Sheet other) {
            high = other.high;
            wide = other.wide;
            ruleCount = other.ruleCount;
            System.arraycopy(other.values, 0, values, 0, CELLS);
            System.arraycopy(other.cellFormats, 0, cellFormats, 0, PROPERTIES * CELLS);
            System.arraycopy(other.lineFormats, 0, lineFormats, 0, 2 * PROPERTIES * SIDE);
            System.arraycopy(other.grounds, 0, grounds, 0, PROPERTIES);
            for (int rank = 0; rank < ruleCount; rank++) ruleAt(rank).become(other.ruleAt(rank));
        }

        int size(int way) {
            return way == ROWS ? high : wide;
        }

        boolean hasCell(int cell) {
            return cell >= 0 && cell / 100 < high && cell % 100 < wide;
        }

        boolean hasRect(int rect) {
            return rect >= 0 && topOf(rect) <= bottomOf(rect) && bottomOf(rect) < high
                    && leftOf(rect) <= rightOf(rect) && rightOf(rect) < wide;
        }

        boolean hasLines(int way, int ab) {
            return ab >= 0 && ab / 100 <= ab % 100 && ab % 100 < size(way);
        }

        boolean hasRule(int rank) {
            return rank >= 0 && rank < ruleCount;
        }

        Rule ruleAt(int rank) {
            Rule rule = rank >= 0 && rank < rules.length ? rules[rank] : null;
            return rule == null ? noRule : rule;
        }

        int valueOf(int row, int column) {
            int at = row * SIDE + column;
            return at >= 0 && at < values.length ? values[at] : 0;
        }

        void setValueOf(int row, int column, int v) {
            int at = row * SIDE + column;
            if (at >= 0 && at < values.length) values[at] = v;
        }

        int cellFormat(int property, int row, int column) {
            int at = property * CELLS + row * SIDE + column;
            return at >= 0 && at < cellFormats.length ? cellFormats[at] : NONE;
        }

        void setCellFormat(int property, int row, int column, int v) {
            int at = property * CELLS + row * SIDE + column;
            if (at >= 0 && at < cellFormats.length) cellFormats[at] = v;
        }

        int lineFormat(int way, int property, int line) {
            int at = (way * PROPERTIES + property) * SIDE + line;
            return at >= 0 && at < lineFormats.length ? lineFormats[at] : NONE;
        }

        void setLineFormat(int way, int property, int line, int v) {
            int at = (way * PROPERTIES + property) * SIDE + line;
            if (at >= 0 && at < lineFormats.length) lineFormats[at] = v;
        }

        int beneath(int property, int row, int column) {
            int rows = lineFormat(ROWS, property, row);
            if (rows != NONE) return rows;
            int columns = lineFormat(COLUMNS, property, column);
            return columns != NONE ? columns : peek(grounds, property);
        }

        boolean isNeedless(int property, int row, int column) {
            int own = cellFormat(property, row, column);
            return own != NONE && own == beneath(property, row, column);
        }

        int needlessCells(int property) {
            int found = 0;
            for (int row = 0; row < high; row++) {
                for (int column = 0; column < wide; column++) {
                    if (isNeedless(property, row, column)) found++;
                }
            }
            return found;
        }

        /** Where SHOWN is from, when the rules of the mask's bits hold at the cell. */
        int sourceOf(int mask, int property, int row, int column) {
            for (int rank = 0; rank < ruleCount; rank++) {
                if ((mask >> rank & 1) != 0) {
                    Rule rule = ruleAt(rank);
                    if (rule.property == property) return FROM_RULE + rank;
                    if (rule.stops == 1) break;
                }
            }
            if (cellFormat(property, row, column) != NONE) return FROM_CELL;
            if (lineFormat(ROWS, property, row) != NONE) return FROM_ROW;
            return lineFormat(COLUMNS, property, column) != NONE ? FROM_COLUMN : FROM_GROUND;
        }

        int numberFrom(int source, int property, int row, int column) {
            if (source >= FROM_RULE) return ruleAt(source - FROM_RULE).number;
            return source == FROM_CELL ? cellFormat(property, row, column) : beneath(property, row, column);
        }

        int putRule(int rank, int rect, int pv, int stops, int[] code) {
            if (rank < 0 || rank > ruleCount || ruleCount >= MOST_RULES) return BAD;
            carryRule(ruleCount, rank);
            ruleCount++;
            Rule rule = ruleAt(rank);
            rule.top = topOf(rect);
            rule.left = leftOf(rect);
            rule.bottom = bottomOf(rect);
            rule.right = rightOf(rect);
            rule.property = pv / 10;
            rule.number = pv % 10;
            rule.stops = stops;
            rule.code = code;
            return ruleCount;
        }

        int dropRule(int rank) {
            if (!hasRule(rank)) return BAD;
            carryRule(rank, ruleCount - 1);
            ruleCount--;
            return ruleCount;
        }

        int bringRule(int rank, int to) {
            if (!hasRule(rank) || !hasRule(to)) return BAD;
            carryRule(rank, to);
            return 1;
        }

        /** The rule objects only change their seats; none is made or lost. */
        private void carryRule(int from, int to) {
            if (from < 0 || from >= rules.length || to < 0 || to >= rules.length) return;
            Rule carried = rules[from];
            for (int rank = from; rank < to && rank + 1 < rules.length; rank++) rules[rank] = rules[rank + 1];
            for (int rank = from; rank > to && rank < rules.length; rank--) rules[rank] = rules[rank - 1];
            rules[to] = carried;
        }
    }

    /** What a request does to a sheet, the same for a call and for a line of a program. */
    private static final class Editor {
        private final Sheet was = new Sheet();
        private final int[] order = new int[SIDE];

        int paintRect(Sheet sheet, int property, int v, int rect) {
            if (!isProperty(property) || !isFormat(v) || !sheet.hasRect(rect)) return BAD;
            for (int row = topOf(rect); row <= bottomOf(rect); row++) {
                for (int column = leftOf(rect); column <= rightOf(rect); column++) {
                    sheet.setCellFormat(property, row, column, v);
                }
            }
            return 1;
        }

        int setLines(Sheet sheet, int way, int property, int v, int ab) {
            if (!isFlag(way) || !isProperty(property) || !isFormat(v) || !sheet.hasLines(way, ab)) return BAD;
            for (int line = ab / 100; line <= ab % 100; line++) sheet.setLineFormat(way, property, line, v);
            return 1;
        }

        int setGround(Sheet sheet, int property, int v) {
            if (!isProperty(property) || !isNumber(v)) return BAD;
            poke(sheet.grounds, property, v);
            return 1;
        }

        int setValue(Sheet sheet, int cell, int v) {
            if (!sheet.hasCell(cell) || v < -MOST_VALUE || v > MOST_VALUE) return BAD;
            sheet.setValueOf(cell / 100, cell % 100, v);
            return 1;
        }

        int insertLines(Sheet sheet, int way, int place, int n) {
            if (!isFlag(way) || place < 0 || place > sheet.size(way) || n < 1 || n > SIDE) return BAD;
            int size = sheet.size(way) + n;
            if (size > SIDE) return FULL;
            for (int line = 0; line < size; line++) {
                poke(order, line, line < place ? line : line < place + n ? NONE : line - n);
            }
            bringLines(sheet, way, size);
            if (place > 0 && place + n < size) {
                for (int line = place; line < place + n; line++) joinNewLine(sheet, way, place, line);
            }
            for (int rank = 0; rank < sheet.ruleCount; rank++) sheet.ruleAt(rank).makeRoom(way, place, n);
            return size;
        }

        int removeLines(Sheet sheet, int way, int ab) {
            if (!isFlag(way) || !sheet.hasLines(way, ab)) return BAD;
            int first = ab / 100, last = ab % 100, gone = last - first + 1;
            int size = sheet.size(way) - gone;
            if (size < 1) return STATE;
            for (int line = 0; line < size; line++) poke(order, line, line < first ? line : line + gone);
            bringLines(sheet, way, size);
            for (int rank = sheet.ruleCount - 1; rank >= 0; rank--) {
                if (!sheet.ruleAt(rank).loseLines(way, first, last)) sheet.dropRule(rank);
            }
            return size;
        }

        int copyRect(Sheet sheet, int from, int to, int turned) {
            if (!sheet.hasRect(from) || !sheet.hasRect(to) || !isFlag(turned)) return BAD;
            was.become(sheet);
            int high = bottomOf(from) - topOf(from) + 1, wide = rightOf(from) - leftOf(from) + 1;
            for (int i = 0; i <= bottomOf(to) - topOf(to); i++) {
                for (int j = 0; j <= rightOf(to) - leftOf(to); j++) {
                    int row = topOf(from) + wrap(turned == 1 ? j : i, high);
                    int column = leftOf(from) + wrap(turned == 1 ? i : j, wide);
                    for (int property = 0; property < PROPERTIES; property++) {
                        int v = was.cellFormat(property, row, column);
                        sheet.setCellFormat(property, topOf(to) + i, leftOf(to) + j, v);
                    }
                }
            }
            return 1;
        }

        int clearNeedless(Sheet sheet, int property) {
            if (!isProperty(property)) return BAD;
            int cleared = 0;
            for (int row = 0; row < sheet.high; row++) {
                for (int column = 0; column < sheet.wide; column++) {
                    if (sheet.isNeedless(property, row, column)) {
                        sheet.setCellFormat(property, row, column, NONE);
                        cleared++;
                    }
                }
            }
            return cleared;
        }

        int sortRows(Sheet sheet, int ab, int column, int falling) {
            if (!sheet.hasLines(ROWS, ab) || column < 0 || column >= sheet.wide || !isFlag(falling)) return BAD;
            int first = ab / 100, last = ab % 100;
            for (int line = 0; line < sheet.high; line++) poke(order, line, line);
            for (int line = first + 1; line <= last; line++) {
                for (int at = line; at > first && mustSwap(sheet, at, column, falling); at--) {
                    int later = peek(order, at);
                    poke(order, at, peek(order, at - 1));
                    poke(order, at - 1, later);
                }
            }
            bringLines(sheet, ROWS, sheet.high);
            return 1;
        }

        int moveLines(Sheet sheet, int way, int ab, int place) {
            if (!isFlag(way) || !sheet.hasLines(way, ab)) return BAD;
            int first = ab / 100, moved = ab % 100 - first + 1;
            int size = sheet.size(way);
            if (place < 0 || place > size - moved) return BAD;
            for (int line = 0; line < size; line++) {
                int other = line < place ? line : line - moved;
                boolean isMoved = line >= place && line < place + moved;
                poke(order, line, isMoved ? first + line - place : other < first ? other : other + moved);
            }
            bringLines(sheet, way, size);
            return 1;
        }

        /** Rows of like values stay as they stood, rising and falling. */
        private boolean mustSwap(Sheet sheet, int at, int column, int falling) {
            int ahead = sheet.valueOf(peek(order, at - 1), column), behind = sheet.valueOf(peek(order, at), column);
            return falling == 1 ? behind > ahead : behind < ahead;
        }

        /** Lines come in the order told; NONE in it is a new, empty one. */
        private void bringLines(Sheet sheet, int way, int size) {
            was.become(sheet);
            if (way == ROWS) sheet.high = size;
            else sheet.wide = size;
            for (int line = 0; line < size; line++) {
                int from = peek(order, line);
                for (int across = 0; across < sheet.size(1 - way); across++) {
                    if (way == ROWS) bringCell(sheet, line, across, from, across);
                    else bringCell(sheet, across, line, across, from);
                }
                for (int property = 0; property < PROPERTIES; property++) {
                    sheet.setLineFormat(way, property, line, from < 0 ? NONE : was.lineFormat(way, property, from));
                }
            }
        }

        private void bringCell(Sheet sheet, int row, int column, int fromRow, int fromColumn) {
            boolean isNew = fromRow < 0 || fromColumn < 0;
            sheet.setValueOf(row, column, isNew ? 0 : was.valueOf(fromRow, fromColumn));
            for (int property = 0; property < PROPERTIES; property++) {
                int v = isNew ? NONE : was.cellFormat(property, fromRow, fromColumn);
                sheet.setCellFormat(property, row, column, v);
            }
        }

        /** A new line amid cells of one number takes that number, so that their rectangles grow. */
        private void joinNewLine(Sheet sheet, int way, int place, int line) {
            for (int property = 0; property < PROPERTIES; property++) {
                for (int across = 0; across < sheet.size(1 - way); across++) {
                    int ahead = way == ROWS ? was.cellFormat(property, place - 1, across)
                            : was.cellFormat(property, across, place - 1);
                    int at = way == ROWS ? was.cellFormat(property, place, across)
                            : was.cellFormat(property, across, place);
                    if (ahead == at) {
                        if (way == ROWS) sheet.setCellFormat(property, line, across, ahead);
                        else sheet.setCellFormat(property, across, line, ahead);
                    }
                }
            }
        }
    }

    /** The states between the latest requests, in a ring; the state at undoable is the sheet as it is. */
    private static final class History {
        private final Sheet[] states = new Sheet[MOST_UNDONE + 1];
        private final Sheet draft = new Sheet();
        private int base;
        int undoable, redoable;

        History() {
            for (int k = 0; k < states.length; k++) states[k] = new Sheet();
        }

        Sheet stateAt(int k) {
            int at = Math.floorMod(base + k, MOST_UNDONE + 1);
            Sheet state = at >= 0 && at < states.length ? states[at] : null;
            return state == null ? draft : state;
        }

        Sheet draftOfNow() {
            draft.become(stateAt(undoable));
            return draft;
        }

        void acceptDraft() {
            if (undoable < MOST_UNDONE) undoable++;
            else base = (base + 1) % (MOST_UNDONE + 1);
            redoable = 0;
            stateAt(undoable).become(draft);
        }

        int stepBack() {
            undoable--;
            redoable++;
            return undoable;
        }

        int stepOn() {
            undoable++;
            redoable--;
            return redoable;
        }

        void startFrom(Sheet sheet) {
            undoable = 0;
            redoable = 0;
            stateAt(0).become(sheet);
        }
    }

    /** THE TAPE, and a reader's way through it, token by token, till the first fault. */
    private static final class Tape {
        static final int END = 0, WORD = 1, NUMBER = 2, OTHER = 3;
        static final String SIGNS = "[]()<=>+-*;:{}";

        private final int[] bytes = new int[TAPE_BYTES];
        int size;
        /** A sign's kind is its own byte. */
        int kind;
        int fault = NONE;
        private int start, end;

        int append(int n, int word) {
            for (int k = 0; k < n; k++) {
                poke(bytes, size, word >>> 8 * k & 255);
                size++;
            }
            return size;
        }

        void clear() {
            size = 0;
        }

        void rewind() {
            fault = NONE;
            end = 0;
            advance();
        }

        void advance() {
            if (fault != NONE) return;
            start = end;
            while (start < size && peek(bytes, start) == ' ') start++;
            int first = peek(bytes, start), sort = sortOf(first);
            end = Math.min(start + 1, size);
            while (end < size && sort != OTHER && sortOf(peek(bytes, end)) == sort) end++;
            if (start >= size) kind = END;
            else kind = sort != OTHER ? sort : SIGNS.indexOf((char) first) >= 0 ? first : OTHER;
        }

        private static int sortOf(int b) {
            if (b >= 'a' && b <= 'z') return WORD;
            return b >= '0' && b <= '9' ? NUMBER : OTHER;
        }

        /** Only the first fault counts; reading on from there finds nothing but the end. */
        void refuse() {
            if (fault == NONE) fault = start;
            kind = END;
        }

        boolean isWord(String word) {
            return spells(word, 0, word.length());
        }

        boolean takesWord(String word) {
            boolean is = spells(word, 0, word.length());
            if (is) advance();
            return is;
        }

        boolean takesSign(int sign) {
            boolean is = kind == sign;
            if (is) advance();
            return is;
        }

        void needSign(int sign) {
            if (!takesSign(sign)) refuse();
        }

        int needNumber(int digits) {
            if (kind != NUMBER || end - start > digits) {
                refuse();
                return 0;
            }
            int number = 0;
            for (int at = start; at < end; at++) number = 10 * number + peek(bytes, at) - '0';
            advance();
            return number;
        }

        /** Which of the words, that stand with blanks between, the token is. */
        int needOneOf(String words) {
            int which = 0, from = 0;
            for (int at = 0; at <= words.length(); at++) {
                if (at == words.length() || words.charAt(at) == ' ') {
                    if (spells(words, from, at)) {
                        advance();
                        return which;
                    }
                    which++;
                    from = at + 1;
                }
            }
            refuse();
            return NONE;
        }

        private boolean spells(String words, int from, int to) {
            if (kind != WORD || end - start != to - from || from < 0 || to > words.length()) return false;
            for (int at = from; at < to; at++) {
                int here = start + at - from;
                if (here < 0 || here >= bytes.length || words.charAt(at) != bytes[here]) return false;
            }
            return true;
        }
    }

    /** Reads a condition into code for a stack: operands first, and jumps, forward only, for or and and. */
    private static final class ConditionReader {
        static final int PUSH = 1, WORD = 2, LIKE = 3, GREATER = 4, NEGATE = 5, NOT = 6, LEAVE_IF_SO = 7, LEAVE_IF_NOT = 8;
        static final int VALUE_WORD = 0, ROW_WORD = 1, COLUMN_WORD = 2, LEFT_WORD = 3, ABOVE_WORD = 4,
                SUM_WORD = 5, MOST_WORD = 6, LEAST_WORD = 7, LIKE_WORD = 8, GREATER_WORD = 9;
        static final int EITHER = 0, BOTH = 1, NEGATED = 2, COMPARED = 3, SUM = 4, PART = 5, UNIT = 6;
        static final String WORDS = "value row column left above sum most least like greater";
        static final int DIGITS = 4;

        private final Tape tape;
        private final int[] code = new int[3 * TAPE_BYTES];
        private int size;

        ConditionReader(Tape tape) {
            this.tape = tape;
        }

        /** The code, or null where the tape has a fault. */
        int[] read() {
            size = 0;
            tape.rewind();
            readLevel(EITHER, 0);
            tape.needSign(Tape.END);
            boolean isRead = tape.fault == NONE && size >= 0 && size <= code.length;
            return isRead ? Arrays.copyOf(code, size) : null;
        }

        /** The levels stand from what binds loosest to what binds tightest; each is made of the next. */
        private void readLevel(int level, int open) {
            switch (level) {
                case EITHER:
                case BOTH:
                    readJoined(level, open);
                    break;
                case NEGATED:
                    readNegated(open);
                    break;
                case COMPARED:
                    readCompared(open);
                    break;
                case SUM:
                case PART:
                    readReckoned(level, open);
                    break;
                default:
                    readUnit(open);
            }
        }

        private void readJoined(int level, int open) {
            String word = level == EITHER ? "or" : "and";
            readLevel(level + 1, open);
            for (int n = 0; n < TAPE_BYTES && tape.takesWord(word); n++) {
                int jump = emitWith(level == EITHER ? LEAVE_IF_SO : LEAVE_IF_NOT, 0);
                readLevel(level + 1, open);
                poke(code, jump, size);
            }
        }

        private void readNegated(int open) {
            if (tape.isWord("not")) {
                if (!opens(open)) return;
                readLevel(NEGATED, open + 1);
                emit(NOT);
            } else if (tape.kind == '[') {
                if (!opens(open)) return;
                readLevel(EITHER, open + 1);
                tape.needSign(']');
            } else {
                readLevel(COMPARED, open);
            }
        }

        private void readCompared(int open) {
            readLevel(SUM, open);
            int sign = tape.kind;
            if (sign == '<' || sign == '=' || sign == '>') tape.advance();
            else tape.refuse();
            readLevel(SUM, open);
            emit(sign);
        }

        private void readReckoned(int level, int open) {
            readLevel(level + 1, open);
            for (int n = 0; n < TAPE_BYTES && reckons(level, tape.kind); n++) {
                int sign = tape.kind;
                tape.advance();
                readLevel(level + 1, open);
                emit(sign);
            }
        }

        private static boolean reckons(int level, int sign) {
            return level == SUM ? sign == '+' || sign == '-' : sign == '*';
        }

        private void readUnit(int open) {
            if (tape.kind == '-') {
                if (!opens(open)) return;
                readLevel(UNIT, open + 1);
                emit(NEGATE);
            } else if (tape.kind == '(') {
                if (!opens(open)) return;
                readLevel(SUM, open + 1);
                tape.needSign(')');
            } else if (tape.kind == Tape.NUMBER) {
                emitWith(PUSH, tape.needNumber(DIGITS));
            } else {
                emitWord(tape.needOneOf(WORDS));
            }
        }

        /** Takes the token that opens, unless it would go deeper than the document lets it. */
        private boolean opens(int open) {
            boolean may = open < MOST_OPEN;
            if (may) tape.advance();
            else tape.refuse();
            return may;
        }

        private void emitWord(int word) {
            if (word == LIKE_WORD) emit(LIKE);
            else if (word == GREATER_WORD) emit(GREATER);
            else emitWith(WORD, word);
        }

        private void emit(int op) {
            poke(code, size, op);
            size++;
        }

        private int emitWith(int op, int operand) {
            emit(op);
            emit(operand);
            return size - 1;
        }
    }

    /** Finds out whether a rule holds at a cell. */
    private static final class Probe {
        private final int[] stack = new int[TAPE_BYTES];
        private int depth, sum, most, least, row, column, like, greater;
        private boolean sound, peersCounted;

        int maskAt(Sheet sheet, int row, int column) {
            int mask = 0;
            for (int rank = 0; rank < sheet.ruleCount; rank++) {
                Rule rule = sheet.ruleAt(rank);
                if (rule.covers(row, column)) {
                    aim(sheet, rule);
                    if (isSo(sheet, rule, row, column)) mask |= 1 << rank;
                }
            }
            return mask;
        }

        /** What is the same for all cells of a rule is worked out once, ahead of isSo. */
        void aim(Sheet sheet, Rule rule) {
            sum = 0;
            most = -MOST_VALUE;
            least = MOST_VALUE;
            for (int row = rule.top; row <= rule.bottom; row++) {
                for (int column = rule.left; column <= rule.right; column++) {
                    int value = sheet.valueOf(row, column);
                    sum += value;
                    most = Math.max(most, value);
                    least = Math.min(least, value);
                }
            }
        }

        boolean isSo(Sheet sheet, Rule rule, int row, int column) {
            int[] code = rule.code;
            if (code == null) return false;
            this.row = row;
            this.column = column;
            depth = 0;
            sound = true;
            peersCounted = false;
            int at = 0;
            for (int n = 0; n < code.length && at < code.length && sound; n++) at = step(sheet, rule, code, at);
            return sound && pop() != 0;
        }

        private int step(Sheet sheet, Rule rule, int[] code, int at) {
            int op = peek(code, at), operand = peek(code, at + 1);
            switch (op) {
                case ConditionReader.PUSH:
                    push(operand);
                    return at + 2;
                case ConditionReader.WORD:
                    push(wordFor(sheet, operand));
                    return at + 2;
                case ConditionReader.LIKE:
                    countPeers(sheet, rule);
                    push(like);
                    return at + 1;
                case ConditionReader.GREATER:
                    countPeers(sheet, rule);
                    push(greater);
                    return at + 1;
                case ConditionReader.NEGATE:
                    push(-(long) pop());
                    return at + 1;
                case ConditionReader.NOT:
                    push(1 - pop());
                    return at + 1;
                case ConditionReader.LEAVE_IF_SO:
                case ConditionReader.LEAVE_IF_NOT:
                    int so = pop();
                    if ((so != 0) != (op == ConditionReader.LEAVE_IF_SO)) return at + 2;
                    push(so);
                    return operand;
                default:
                    long right = pop(), left = pop();
                    push(joined(op, left, right));
                    return at + 1;
            }
        }

        private static long joined(int sign, long left, long right) {
            switch (sign) {
                case '+': return left + right;
                case '-': return left - right;
                case '*': return left * right;
                case '<': return left < right ? 1 : 0;
                case '=': return left == right ? 1 : 0;
                case '>': return left > right ? 1 : 0;
                default: return 0;
            }
        }

        private int wordFor(Sheet sheet, int word) {
            switch (word) {
                case ConditionReader.VALUE_WORD: return sheet.valueOf(row, column);
                case ConditionReader.ROW_WORD: return row;
                case ConditionReader.COLUMN_WORD: return column;
                case ConditionReader.LEFT_WORD: return column > 0 ? sheet.valueOf(row, column - 1) : 0;
                case ConditionReader.ABOVE_WORD: return row > 0 ? sheet.valueOf(row - 1, column) : 0;
                case ConditionReader.SUM_WORD: return sum;
                case ConditionReader.MOST_WORD: return most;
                case ConditionReader.LEAST_WORD: return least;
                default: return 0;
            }
        }

        /** Once a cell, and only where the condition asks for it: it looks at the rule's whole rectangle. */
        private void countPeers(Sheet sheet, Rule rule) {
            if (peersCounted) return;
            peersCounted = true;
            like = 0;
            greater = 0;
            int own = sheet.valueOf(row, column);
            for (int r = rule.top; r <= rule.bottom; r++) {
                for (int c = rule.left; c <= rule.right; c++) {
                    int value = sheet.valueOf(r, c);
                    if (value == own) like++;
                    if (value > own) greater++;
                }
            }
        }

        private void push(long v) {
            if (v != (int) v) sound = false;
            poke(stack, depth, (int) v);
            depth++;
        }

        private int pop() {
            depth--;
            return peek(stack, depth);
        }
    }

    /** Reads a program into lines of equal width: what to do, then its numbers. */
    private static final class ProgramReader {
        static final int PAINT = 0, SET_ROWS = 1, SET_COLUMNS = 2, INSERT = 3, REMOVE = 4, COPY = 5, TURN = 6, TIDY = 7,
                SHIFT = 8, REPEAT = 9;
        static final String LINES = "paint rows columns insert remove copy turn tidy shift repeat";
        static final String WAYS = "rows columns", NAMES = "face size ink fill";
        static final String LETTERS = "a b c d e f g h i j k l m n o p";
        static final int WIDTH = 9, DIGITS = 2;

        private final Tape tape;
        private final int[] code = new int[WIDTH * TAPE_BYTES];
        private int lineCount, at;

        ProgramReader(Tape tape) {
            this.tape = tape;
        }

        /** The code, or null where the tape has a fault. */
        int[] read() {
            lineCount = 0;
            tape.rewind();
            readLines(0);
            tape.needSign(Tape.END);
            int size = lineCount * WIDTH;
            boolean isRead = tape.fault == NONE && size >= 0 && size <= code.length;
            return isRead ? Arrays.copyOf(code, size) : null;
        }

        private void readLines(int open) {
            for (int n = 0; n < TAPE_BYTES && tape.kind == Tape.WORD; n++) {
                int what = tape.needOneOf(LINES), line = lineCount;
                lineCount++;
                at = line * WIDTH;
                add(what);
                readNumbers(what);
                if (what != REPEAT) {
                    tape.needSign(';');
                } else if (opens(open)) {
                    readLines(open + 1);
                    tape.needSign('}');
                    poke(code, line * WIDTH + 2, lineCount);
                }
            }
        }

        private boolean opens(int open) {
            if (open < MOST_OPEN) tape.needSign('{');
            else tape.refuse();
            return open < MOST_OPEN && tape.fault == NONE;
        }

        private void readNumbers(int what) {
            switch (what) {
                case PAINT:
                    addFormat();
                    addArea();
                    break;
                case SET_ROWS:
                case SET_COLUMNS:
                    addFormat();
                    addTwo("to");
                    break;
                case INSERT:
                    add(tape.needOneOf(WAYS));
                    addTwo("by");
                    break;
                case REMOVE:
                    add(tape.needOneOf(WAYS));
                    addTwo("to");
                    break;
                case COPY:
                case TURN:
                    addArea();
                    tape.needOneOf("to");
                    addArea();
                    break;
                case TIDY:
                    add(tape.needOneOf(NAMES));
                    break;
                case SHIFT:
                    addMove();
                    addMove();
                    break;
                case REPEAT:
                    add(tape.needNumber(DIGITS));
                    break;
                default:
                    tape.refuse();
            }
        }

        private void addFormat() {
            add(tape.needOneOf(NAMES));
            add(tape.takesWord("none") ? NONE : tape.needNumber(DIGITS));
        }

        private void addTwo(String between) {
            add(tape.needNumber(DIGITS));
            tape.needOneOf(between);
            add(tape.needNumber(DIGITS));
        }

        /** A single place is the area from it to itself. */
        private void addArea() {
            int left = tape.needOneOf(LETTERS), top = tape.needNumber(DIGITS);
            boolean goesOn = tape.takesSign(':');
            int right = goesOn ? tape.needOneOf(LETTERS) : left;
            int bottom = goesOn ? tape.needNumber(DIGITS) : top;
            add(top);
            add(left);
            add(bottom);
            add(right);
        }

        private void addMove() {
            boolean isLess = tape.takesSign('-');
            int by = tape.needNumber(DIGITS);
            add(isLess ? -by : by);
        }

        private void add(int v) {
            poke(code, at, v);
            at++;
        }
    }

    /** Runs a program's lines on a sheet that is thrown away where it breaks. */
    private static final class Runner {
        private final Editor editor;
        private int steps, originRow, originColumn;
        private boolean broken;

        Runner(Editor editor) {
            this.editor = editor;
        }

        int runOn(Sheet sheet, int[] code) {
            steps = 0;
            originRow = 0;
            originColumn = 0;
            broken = false;
            runLines(sheet, code, 0, code.length / ProgramReader.WIDTH, 0);
            return broken ? FAULTY - steps : steps;
        }

        private void runLines(Sheet sheet, int[] code, int first, int behind, int open) {
            int line = first;
            for (int n = first; n < behind && line < behind && !broken; n++) {
                int at = line * ProgramReader.WIDTH;
                line++;
                broken = steps >= MOST_STEPS;
                if (broken) return;
                steps++;
                if (peek(code, at) == ProgramReader.REPEAT) {
                    int times = peek(code, at + 1), end = Math.max(line, peek(code, at + 2));
                    for (int k = 0; k < times && open < MOST_OPEN && !broken; k++) {
                        runLines(sheet, code, line, end, open + 1);
                    }
                    line = end;
                } else {
                    broken = perform(sheet, code, at) < 0;
                }
            }
        }

        private int perform(Sheet sheet, int[] code, int at) {
            int what = peek(code, at), first = peek(code, at + 1), second = peek(code, at + 2);
            switch (what) {
                case ProgramReader.PAINT:
                    return editor.paintRect(sheet, first, second, areaAt(code, at + 3));
                case ProgramReader.SET_ROWS:
                    return editor.setLines(sheet, ROWS, first, second, linesAt(code, at + 3, originRow));
                case ProgramReader.SET_COLUMNS:
                    return editor.setLines(sheet, COLUMNS, first, second, linesAt(code, at + 3, originColumn));
                case ProgramReader.INSERT:
                    return editor.insertLines(sheet, first, second + originOf(first), peek(code, at + 3));
                case ProgramReader.REMOVE:
                    return editor.removeLines(sheet, first, linesAt(code, at + 2, originOf(first)));
                case ProgramReader.COPY:
                    return editor.copyRect(sheet, areaAt(code, at + 1), areaAt(code, at + 5), 0);
                case ProgramReader.TURN:
                    return editor.copyRect(sheet, areaAt(code, at + 1), areaAt(code, at + 5), 1);
                case ProgramReader.TIDY:
                    return editor.clearNeedless(sheet, first);
                case ProgramReader.SHIFT:
                    originRow += first;
                    originColumn += second;
                    return 1;
                default:
                    return BAD;
            }
        }

        private int originOf(int way) {
            return way == ROWS ? originRow : originColumn;
        }

        private int areaAt(int[] code, int at) {
            return rectCode(peek(code, at) + originRow, peek(code, at + 1) + originColumn,
                    peek(code, at + 2) + originRow, peek(code, at + 3) + originColumn);
        }

        private static int linesAt(int[] code, int at, int origin) {
            return pairCode(peek(code, at) + origin, peek(code, at + 1) + origin);
        }
    }

    /** What a sheet shows, worked out once for all its cells. */
    private static final class View {
        private final int[] masks = new int[CELLS];
        private final int[] sources = new int[PROPERTIES * CELLS];
        private final int[] numbers = new int[PROPERTIES * CELLS];
        /** The four numbers of a cell as the four digits of one. */
        private final int[] cellLooks = new int[CELLS];
        private final int[] met = new int[10000 / 32 + 1];
        private final int[] runs = new int[CELLS];
        private int high, wide;
        int greatestCells, greatestRect;

        void take(Sheet sheet, Probe probe) {
            high = sheet.high;
            wide = sheet.wide;
            Arrays.fill(masks, 0);
            for (int rank = 0; rank < sheet.ruleCount; rank++) markCells(sheet, probe, rank);
            for (int row = 0; row < high; row++) {
                for (int column = 0; column < wide; column++) takeCell(sheet, row, column);
            }
        }

        private void markCells(Sheet sheet, Probe probe, int rank) {
            Rule rule = sheet.ruleAt(rank);
            probe.aim(sheet, rule);
            for (int row = rule.top; row <= rule.bottom; row++) {
                for (int column = rule.left; column <= rule.right; column++) {
                    int place = placeOf(row, column);
                    if (probe.isSo(sheet, rule, row, column)) poke(masks, place, peek(masks, place) | 1 << rank);
                }
            }
        }

        private void takeCell(Sheet sheet, int row, int column) {
            int place = placeOf(row, column), look = 0;
            for (int property = 0; property < PROPERTIES; property++) {
                int source = sheet.sourceOf(peek(masks, place), property, row, column);
                int number = sheet.numberFrom(source, property, row, column);
                poke(sources, property * CELLS + place, source);
                poke(numbers, property * CELLS + place, number);
                look = 10 * look + number;
            }
            poke(cellLooks, place, look);
        }

        int maskAt(int row, int column) {
            return peek(masks, placeOf(row, column));
        }

        int sourceAt(int property, int row, int column) {
            return peek(sources, property * CELLS + placeOf(row, column));
        }

        int numberAt(int property, int row, int column) {
            return peek(numbers, property * CELLS + placeOf(row, column));
        }

        int lookAt(int row, int column) {
            return peek(cellLooks, placeOf(row, column));
        }

        int cellsHeldBy(int rank) {
            int found = 0;
            for (int row = 0; row < high; row++) {
                for (int column = 0; column < wide; column++) found += maskAt(row, column) >> rank & 1;
            }
            return found;
        }

        int cellsShownBy(int rank, int property) {
            int found = 0;
            for (int row = 0; row < high; row++) {
                for (int column = 0; column < wide; column++) {
                    if (sourceAt(property, row, column) == FROM_RULE + rank) found++;
                }
            }
            return found;
        }

        int cellsShowing(int property, int number, int rect) {
            int found = 0;
            for (int row = topOf(rect); row <= bottomOf(rect); row++) {
                for (int column = leftOf(rect); column <= rightOf(rect); column++) {
                    if (numberAt(property, row, column) == number) found++;
                }
            }
            return found;
        }

        int cellsLooking(int look) {
            int found = 0;
            for (int row = 0; row < high; row++) {
                for (int column = 0; column < wide; column++) {
                    if (lookAt(row, column) == look) found++;
                }
            }
            return found;
        }

        int cellsUnlike(View other) {
            int found = 0;
            for (int row = 0; row < high; row++) {
                for (int column = 0; column < wide; column++) {
                    if (lookAt(row, column) != other.lookAt(row, column)) found++;
                }
            }
            return found;
        }

        int unlikeLooks() {
            Arrays.fill(met, 0);
            int found = 0;
            for (int row = 0; row < high; row++) {
                for (int column = 0; column < wide; column++) {
                    int look = lookAt(row, column), bit = 1 << (look & 31), others = peek(met, look >> 5);
                    if ((others & bit) == 0) found++;
                    poke(met, look >> 5, others | bit);
                }
            }
            return found;
        }

        int stripesOf(int row) {
            int found = 1;
            for (int column = 1; column < wide; column++) {
                if (lookAt(row, column) != lookAt(row, column - 1)) found++;
            }
            return found;
        }

        void findGreatest(int property, int number) {
            greatestCells = 0;
            greatestRect = NONE;
            for (int row = 0; row < high; row++) {
                for (int column = wide - 1; column >= 0; column--) {
                    int behind = column + 1 < wide ? peek(runs, placeOf(row, column + 1)) : 0;
                    poke(runs, placeOf(row, column), numberAt(property, row, column) == number ? behind + 1 : 0);
                }
            }
            for (int top = 0; top < high; top++) {
                for (int left = 0; left < wide; left++) findGreatestFrom(top, left);
            }
        }

        /** The rectangles come by rising numbers, so that the first of like ones is the one to be told. */
        private void findGreatestFrom(int top, int left) {
            int width = SIDE;
            for (int bottom = top; bottom < high && width > 0; bottom++) {
                width = Math.min(width, peek(runs, placeOf(bottom, left)));
                int cells = width * (bottom - top + 1);
                if (cells > greatestCells) {
                    greatestCells = cells;
                    greatestRect = rectCode(top, left, bottom, left + width - 1);
                }
            }
        }
    }

    /** THE COVER of one property's layer of CELL's; the layer is its own, to be painted in thought. */
    private static final class Cover {
        final int[] tops = new int[CELLS], lefts = new int[CELLS], bottoms = new int[CELLS];
        final int[] rights = new int[CELLS], numbers = new int[CELLS];
        final int[] owners = new int[CELLS];
        private final int[] layer = new int[CELLS];
        private final int[] least = new int[(SIDE + 1) * (SIDE + 2)];
        private int rectCount, high, wide;

        int take(Sheet sheet, int property) {
            copyLayer(sheet, property);
            return build();
        }

        void copyLayer(Sheet sheet, int property) {
            high = sheet.high;
            wide = sheet.wide;
            if (isProperty(property)) System.arraycopy(sheet.cellFormats, property * CELLS, layer, 0, CELLS);
        }

        void stroke(int v, int top, int left, int bottom, int right) {
            for (int row = top; row <= bottom; row++) {
                for (int column = left; column <= right; column++) poke(layer, placeOf(row, column), v);
            }
        }

        void draw(int seed, int n) {
            int z = seed;
            for (int k = 0; k < n; k++) {
                z = nextDraw(z);
                int row = drawnOf(z, high);
                z = nextDraw(z);
                int otherRow = drawnOf(z, high);
                z = nextDraw(z);
                int column = drawnOf(z, wide);
                z = nextDraw(z);
                int otherColumn = drawnOf(z, wide);
                z = nextDraw(z);
                stroke(drawnOf(z, 11) - 1, Math.min(row, otherRow), Math.min(column, otherColumn),
                        Math.max(row, otherRow), Math.max(column, otherColumn));
            }
        }

        private static int nextDraw(int z) {
            return z * 1103515245 + 12345;
        }

        private static int drawnOf(int z, int among) {
            return wrap(z >>> 9, among);
        }

        int cellsSet() {
            int found = 0;
            for (int row = 0; row < high; row++) {
                for (int column = 0; column < wide; column++) {
                    if (formatAt(row, column) != NONE) found++;
                }
            }
            return found;
        }

        /** Row by row, so that the rectangles come by top, then by left. */
        int build() {
            rectCount = 0;
            Arrays.fill(owners, NONE);
            for (int row = 0; row < high; row++) {
                int left = 0;
                for (int column = 0; column < wide; column++) {
                    boolean ends = column + 1 == wide || formatAt(row, column + 1) != formatAt(row, column);
                    if (ends) {
                        if (formatAt(row, column) != NONE) addRun(row, left, column);
                        left = column + 1;
                    }
                }
            }
            return rectCount;
        }

        private void addRun(int row, int left, int right) {
            int above = row > 0 ? peek(owners, placeOf(row - 1, left)) : NONE;
            int number = formatAt(row, left);
            boolean goesOn = above >= 0 && peek(lefts, above) == left && peek(rights, above) == right
                    && peek(numbers, above) == number;
            int k = goesOn ? above : rectCount;
            if (!goesOn) {
                rectCount++;
                poke(tops, k, row);
                poke(lefts, k, left);
                poke(rights, k, right);
                poke(numbers, k, number);
            }
            poke(bottoms, k, row);
            for (int column = left; column <= right; column++) poke(owners, placeOf(row, column), k);
        }

        private int formatAt(int row, int column) {
            return peek(layer, placeOf(row, column));
        }

        int rectNumber(int k) {
            return rectCode(peek(tops, k), peek(lefts, k), peek(bottoms, k), peek(rights, k));
        }

        boolean meets(int k, int rect) {
            return peek(tops, k) <= bottomOf(rect) && peek(bottoms, k) >= topOf(rect)
                    && peek(lefts, k) <= rightOf(rect) && peek(rights, k) >= leftOf(rect);
        }

        /**
         * The row is looked at with one UNSET cell ahead of it: the stroke that would paint that cell
         * stands for the unset row at the start, and is taken off at the end.
         */
        int fewestStrokes(int row) {
            for (int first = wide; first >= 0; first--) {
                for (int last = first; last <= wide; last++) {
                    int fewest = 1 + leastOf(first + 1, last);
                    for (int k = first + 1; k <= last; k++) {
                        if (withEdge(row, k) == withEdge(row, first)) {
                            fewest = Math.min(fewest, leastOf(first + 1, k - 1) + leastOf(k, last));
                        }
                    }
                    poke(least, first * (SIDE + 1) + last, fewest);
                }
            }
            return leastOf(0, wide) - 1;
        }

        private int withEdge(int row, int at) {
            return at == 0 ? NONE : formatAt(row, at - 1);
        }

        private int leastOf(int first, int last) {
            return first > last ? 0 : peek(least, first * (SIDE + 1) + last);
        }
    }
}

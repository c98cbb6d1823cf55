import java.util.Arrays;

/** strokes() of all short rows, against a search through all rows that paints can make. */
final class StrokesTest {
    private final Check check = new Check("StrokesTest");

    public static void main(String[] args) {
        StrokesTest test = new StrokesTest();
        test.rowsOf(6, 4);
        test.rowsOf(5, 5);
        test.rowsOf(1, 3);
        test.check.end();
    }

    /** Rows of so many cells; a cell is told by a digit to the base: 0 is UNSET, the others one more than the NUMBER. */
    private void rowsOf(int wide, int base) {
        int rows = 1;
        for (int k = 0; k < wide; k++) rows *= base;
        int[] least = search(rows, wide, base);
        FewRectangles x = null;
        for (int row = 0; row < rows; row++) {
            if (row % 60 == 0) {
                x = new FewRectangles();
                x.remove(1, 100 * wide + 7);
            }
            int[] cells = cells(row, wide, base);
            for (int c = 0; c < wide; c++) x.paint(0, cells[c] - 1, 3000300 + 10001 * c);
            check.due("strokes of " + Arrays.toString(cells), x.strokes(3, 0), least[row]);
        }
    }

    private static int[] search(int rows, int wide, int base) {
        int[] least = new int[rows];
        Arrays.fill(least, -1);
        int[] queue = new int[rows];
        int behind = 1;
        least[0] = 0;
        for (int at = 0; at < behind; at++) {
            for (int from = 0; from < wide; from++) {
                for (int to = from; to < wide; to++) {
                    for (int v = 0; v < base; v++) {
                        int[] cells = cells(queue[at], wide, base);
                        Arrays.fill(cells, from, to + 1, v);
                        int row = number(cells, base);
                        if (least[row] < 0) {
                            least[row] = least[queue[at]] + 1;
                            queue[behind++] = row;
                        }
                    }
                }
            }
        }
        return least;
    }

    private static int[] cells(int row, int wide, int base) {
        int[] cells = new int[wide];
        int left = row;
        for (int k = 0; k < wide; k++) {
            cells[k] = left % base;
            left /= base;
        }
        return cells;
    }

    private static int number(int[] cells, int base) {
        int row = 0;
        for (int k = cells.length - 1; k >= 0; k--) row = row * base + cells[k];
        return row;
    }
}

/**
 * A table whose columns are packed block by block in the smallest of six forms,
 * with later changes kept beside, and asked through ranges.
 *
 * The forms decide only what form and digits answer. The values themselves are
 * held twice, as they are now and as their block was packed with them, so that
 * no question has to unpack anything.
 */
public final class PackedColumns {
    public static final int BAD_ARG = -1000000001;
    public static final int FULL = -1000000002;
    public static final int NONE = -1000000003;

    private static final int MAX_ROWS = 96;
    private static final int COLUMNS = 3;
    private static final int PLACES = 288;
    private static final int BLOCK_ROWS = 16;
    private static final int MAX_PATCHES = 20;
    private static final int MAX_CONDITIONS = 4;

    private static final int FORMS = 6;
    private static final int PLAIN = 0;
    private static final int SINGLE = 1;
    private static final int RUNS = 2;
    private static final int LIST = 3;
    private static final int FRAME = 4;

    private static final int VALUE_DIGITS = 32;
    private static final int PLAIN_DIGITS = 512;
    private static final int RUN_DIGITS = 37;
    private static final int FRAME_DIGITS = 38;
    private static final int STEPS_DIGITS = 70;
    private static final int MAX_LISTED = 8;
    private static final int MAX_WIDTH = 31;
    // Above what any form can take, so that a form that can't be used is never the smallest.
    private static final int UNUSABLE = 1000000;

    // Column by column, so that the values of one column of a block lie one behind the other.
    private final int[] values = new int[PLACES];
    private final int[] packed = new int[PLACES];
    private final boolean[] patched = new boolean[PLACES];
    private final boolean[] deleted = new boolean[MAX_ROWS];
    private int rowCount;
    private int patchCount;

    private final int[] conditionColumn = new int[MAX_CONDITIONS];
    private final int[] conditionLow = new int[MAX_CONDITIONS];
    private final int[] conditionHigh = new int[MAX_CONDITIONS];
    private int conditionCount;

    public PackedColumns() {
        rowCount = 0;
        patchCount = 0;
        conditionCount = 0;
    }

    // ---- The rows ----

    public int append(int x, int y, int z) {
        if (rowCount >= MAX_ROWS) {
            return FULL;
        }
        int row = rowCount;
        values[row] = x;
        values[MAX_ROWS + row] = y;
        values[2 * MAX_ROWS + row] = z;
        rowCount = row + 1;
        if (rowCount % BLOCK_ROWS == 0) {
            packBlock(row / BLOCK_ROWS);
        }
        return row;
    }

    public int change(int r, int c, int x) {
        if (!isColumn(c)) {
            return BAD_ARG;
        }
        if (!isLiveRow(r)) {
            return NONE;
        }
        int place = c * MAX_ROWS + r;
        int before = values[place];
        if (before == x) {
            return before;
        }
        if (isInBlock(r) && !patched[place]) {
            if (patchCount >= MAX_PATCHES) {
                return FULL;
            }
            patched[place] = true;
            patchCount++;
        }
        values[place] = x;
        return before;
    }

    public int delete(int r) {
        if (!isLiveRow(r)) {
            return NONE;
        }
        deleted[r] = true;
        int left = 0;
        for (int row = 0; row < rowCount; row++) {
            if (!deleted[row]) {
                left++;
            }
        }
        return left;
    }

    public int compact() {
        int kept = 0;
        for (int row = 0; row < rowCount; row++) {
            if (!deleted[row]) {
                copyRow(row, kept);
                kept++;
            }
        }
        rowCount = kept;
        for (int row = 0; row < MAX_ROWS; row++) {
            deleted[row] = false;
        }
        dropPatches();
        for (int block = 0; block < rowCount / BLOCK_ROWS; block++) {
            packBlock(block);
        }
        return rowCount;
    }

    public int rows() {
        return rowCount;
    }

    public int value(int r, int c) {
        if (!isColumn(c)) {
            return BAD_ARG;
        }
        if (!isLiveRow(r)) {
            return NONE;
        }
        return values[c * MAX_ROWS + r];
    }

    private boolean isColumn(int c) {
        return c >= 0 && c < COLUMNS;
    }

    private boolean isLiveRow(int r) {
        return r >= 0 && r < rowCount && !deleted[r];
    }

    private boolean isInBlock(int row) {
        return row / BLOCK_ROWS < rowCount / BLOCK_ROWS;
    }

    private void copyRow(int from, int to) {
        for (int column = 0; column < COLUMNS; column++) {
            values[column * MAX_ROWS + to] = values[column * MAX_ROWS + from];
        }
    }

    private void dropPatches() {
        for (int place = 0; place < PLACES; place++) {
            patched[place] = false;
        }
        patchCount = 0;
    }

    private void packBlock(int block) {
        for (int column = 0; column < COLUMNS; column++) {
            int start = startOf(block, column);
            for (int i = 0; i < BLOCK_ROWS; i++) {
                packed[start + i] = values[start + i];
            }
        }
    }

    private int startOf(int block, int column) {
        return column * MAX_ROWS + block * BLOCK_ROWS;
    }

    // ---- The blocks and their forms ----

    public int blocks() {
        return rowCount / BLOCK_ROWS;
    }

    public int form(int b, int c) {
        if (!isColumn(c)) {
            return BAD_ARG;
        }
        if (b < 0 || b >= rowCount / BLOCK_ROWS) {
            return NONE;
        }
        int start = startOf(b, c);
        return smallestForm(start);
    }

    public int digits(int c) {
        if (!isColumn(c)) {
            return BAD_ARG;
        }
        int total = rowCount % BLOCK_ROWS * VALUE_DIGITS;
        for (int block = 0; block < rowCount / BLOCK_ROWS; block++) {
            int start = startOf(block, c);
            int form = smallestForm(start);
            total += digitsIn(form, start);
        }
        return total;
    }

    public int patches() {
        return patchCount;
    }

    private int smallestForm(int start) {
        int best = PLAIN;
        int fewest = PLAIN_DIGITS;
        for (int form = 1; form < FORMS; form++) {
            int taken = digitsIn(form, start);
            if (taken < fewest) {
                best = form;
                fewest = taken;
            }
        }
        return best;
    }

    private int digitsIn(int form, int start) {
        switch (form) {
            case PLAIN:
                return PLAIN_DIGITS;
            case SINGLE:
                return singleDigits(start);
            case RUNS:
                return RUN_DIGITS * stretches(start);
            case LIST:
                return listDigits(start);
            case FRAME:
                return frameDigits(start);
            default:
                return stepsDigits(start);
        }
    }

    private int singleDigits(int start) {
        return stretches(start) == 1 ? VALUE_DIGITS : UNUSABLE;
    }

    private int stretches(int start) {
        int found = 1;
        for (int i = 1; i < BLOCK_ROWS; i++) {
            if (packed[start + i] != packed[start + i - 1]) {
                found++;
            }
        }
        return found;
    }

    private int listDigits(int start) {
        int listed = 0;
        for (int i = 0; i < BLOCK_ROWS; i++) {
            if (isFirstInBlock(start, i)) {
                listed++;
            }
        }
        if (listed > MAX_LISTED) {
            return UNUSABLE;
        }
        // At most 2 to the power w values is the same as the last one's number being below it.
        int width = widthOf(listed - 1);
        return VALUE_DIGITS * listed + BLOCK_ROWS * width;
    }

    private boolean isFirstInBlock(int start, int i) {
        for (int earlier = 0; earlier < i; earlier++) {
            if (packed[start + earlier] == packed[start + i]) {
                return false;
            }
        }
        return true;
    }

    private int frameDigits(int start) {
        long lowest = packed[start];
        long highest = lowest;
        for (int i = 1; i < BLOCK_ROWS; i++) {
            long v = packed[start + i];
            lowest = v < lowest ? v : lowest;
            highest = v > highest ? v : highest;
        }
        int width = widthOf(highest - lowest);
        return width > MAX_WIDTH ? UNUSABLE : FRAME_DIGITS + BLOCK_ROWS * width;
    }

    private int stepsDigits(int start) {
        long lowest = stepBehind(start);
        long highest = lowest;
        for (int i = 1; i < BLOCK_ROWS - 1; i++) {
            long step = stepBehind(start + i);
            lowest = step < lowest ? step : lowest;
            highest = step > highest ? step : highest;
        }
        if (lowest != (int) lowest || highest != (int) highest) {
            return UNUSABLE;
        }
        int width = widthOf(highest - lowest);
        return width > MAX_WIDTH ? UNUSABLE : STEPS_DIGITS + (BLOCK_ROWS - 1) * width;
    }

    private long stepBehind(int place) {
        return (long) packed[place + 1] - packed[place];
    }

    /** The least w such that the span is below 2 to the power w, or one above MAX_WIDTH if there is none up to it. */
    private int widthOf(long span) {
        int width = 0;
        while (width <= MAX_WIDTH && span >= 1L << width) {
            width++;
        }
        return width;
    }

    // ---- The conditions ----

    public int condition(int c, int low, int high) {
        if (!isColumn(c)) {
            return BAD_ARG;
        }
        if (conditionCount >= MAX_CONDITIONS) {
            return FULL;
        }
        conditionColumn[conditionCount] = c;
        conditionLow[conditionCount] = low;
        conditionHigh[conditionCount] = high;
        conditionCount++;
        return conditionCount;
    }

    public int free() {
        int before = conditionCount;
        conditionCount = 0;
        return before;
    }

    public int passed() {
        int found = 0;
        for (int block = 0; block < rowCount / BLOCK_ROWS; block++) {
            if (isPassed(block)) {
                found++;
            }
        }
        return found;
    }

    private boolean isPassed(int block) {
        for (int i = 0; i < conditionCount; i++) {
            int start = startOf(block, conditionColumn[i]);
            if (!isMetByPacked(i, start)) {
                return true;
            }
        }
        return false;
    }

    private boolean isMetByPacked(int condition, int start) {
        for (int i = 0; i < BLOCK_ROWS; i++) {
            if (isWithin(condition, packed[start + i])) {
                return true;
            }
        }
        return false;
    }

    private boolean isWithin(int condition, int v) {
        return conditionLow[condition] <= v && v <= conditionHigh[condition];
    }

    private boolean isChosen(int row) {
        if (deleted[row]) {
            return false;
        }
        for (int i = 0; i < conditionCount; i++) {
            if (!isWithin(i, values[conditionColumn[i] * MAX_ROWS + row])) {
                return false;
            }
        }
        return true;
    }

    // ---- The questions about the chosen rows ----

    public int count() {
        int found = 0;
        for (int row = 0; row < rowCount; row++) {
            if (isChosen(row)) {
                found++;
            }
        }
        return found;
    }

    public int chosen(int k) {
        int before = 0;
        for (int row = 0; row < rowCount; row++) {
            if (isChosen(row)) {
                if (before == k) {
                    return row;
                }
                before++;
            }
        }
        return NONE;
    }

    public int sum(int c) {
        if (!isColumn(c)) {
            return BAD_ARG;
        }
        int total = 0;
        for (int row = 0; row < rowCount; row++) {
            if (isChosen(row)) {
                total += values[c * MAX_ROWS + row];
            }
        }
        return total;
    }

    public int least(int c) {
        if (!isColumn(c)) {
            return BAD_ARG;
        }
        boolean any = false;
        int lowest = NONE;
        for (int row = 0; row < rowCount; row++) {
            if (isChosen(row)) {
                int v = values[c * MAX_ROWS + row];
                // NONE can be a value too, so it can't stand for 'nothing yet'.
                if (!any || v < lowest) {
                    lowest = v;
                }
                any = true;
            }
        }
        return lowest;
    }

    public int ranked(int c, int k) {
        if (!isColumn(c)) {
            return BAD_ARG;
        }
        for (int row = 0; row < rowCount; row++) {
            if (isChosen(row)) {
                int v = values[c * MAX_ROWS + row];
                int above = chosenAbove(c, v);
                int equal = chosenWith(c, v, rowCount);
                if (above <= k && k < above + equal) {
                    return v;
                }
            }
        }
        return NONE;
    }

    public int different(int c) {
        if (!isColumn(c)) {
            return BAD_ARG;
        }
        int found = 0;
        for (int row = 0; row < rowCount; row++) {
            if (isChosen(row) && chosenWith(c, values[c * MAX_ROWS + row], row) == 0) {
                found++;
            }
        }
        return found;
    }

    public int commonest(int c) {
        if (!isColumn(c)) {
            return BAD_ARG;
        }
        int best = NONE;
        int most = 0;
        for (int row = 0; row < rowCount; row++) {
            if (isChosen(row)) {
                int v = values[c * MAX_ROWS + row];
                int times = chosenWith(c, v, rowCount);
                if (times > most || times == most && v < best) {
                    best = v;
                    most = times;
                }
            }
        }
        return best;
    }

    private int chosenAbove(int column, int v) {
        int found = 0;
        for (int row = 0; row < rowCount; row++) {
            if (isChosen(row) && values[column * MAX_ROWS + row] > v) {
                found++;
            }
        }
        return found;
    }

    /** How many of the rows before the one named are chosen and have the value v. */
    private int chosenWith(int column, int v, int end) {
        int found = 0;
        for (int row = 0; row < end; row++) {
            if (isChosen(row) && values[column * MAX_ROWS + row] == v) {
                found++;
            }
        }
        return found;
    }
}

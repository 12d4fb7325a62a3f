/** Keeps lines of words and numbers, and answers questions about them. */
public final class LineArchive {
    public static final int BAD = -1;
    public static final int NONE = -2;
    public static final int FULL = -3;

    private static final int MAX_LINES = 60;
    private static final int MAX_ITEMS = 8;
    private static final int MAX_PARTS = 8;
    private static final int ITEM_CELLS = MAX_LINES * MAX_ITEMS;

    private static final int MAX_TIME = 1000;
    private static final int MAX_WORD = 23;
    private static final int FIRST_NUMBER = 1000;
    private static final int LAST_NUMBER = 1999;

    private static final int ANY_ITEM = 2000;
    private static final int ANY_NUMBER = 2001;
    private static final int ANY_ROW = 2002;
    private static final int FIRST_ABOVE = 3000;
    private static final int LAST_ABOVE = 3999;

    private static final int LEAST = 0;
    private static final int GREATEST = 1;
    private static final int SUM = 2;
    private static final int DIFFERENT = 3;

    private final int[] times = new int[MAX_LINES];
    private final int[] lengths = new int[MAX_LINES];
    // Line n has its items from cell n * MAX_ITEMS on.
    private final int[] items = new int[ITEM_CELLS];
    private int lineCount = 0;

    private final int[] draft = new int[MAX_ITEMS];
    private int draftCount = 0;

    private final int[] pattern = new int[MAX_PARTS];
    private int partCount = 0;

    // Working space of largest alone: no answer depends on what it held before the call.
    private final int[] groupSizes = new int[MAX_LINES];

    public LineArchive() {
    }

    public int item(int item) {
        if (!isItem(item)) {
            return BAD;
        }
        if (draftCount >= MAX_ITEMS) {
            return FULL;
        }
        draft[draftCount] = item;
        draftCount++;
        return draftCount;
    }

    public int write(int time) {
        if (!canFollow(time)) {
            return BAD;
        }
        if (draftCount == 0) {
            return NONE;
        }
        if (lineCount >= MAX_LINES) {
            return FULL;
        }
        int line = lineCount;
        times[line] = time;
        lengths[line] = draftCount;
        for (int i = 0; i < draftCount; i++) {
            items[line * MAX_ITEMS + i] = draft[i];
        }
        draftCount = 0;
        lineCount++;
        return line;
    }

    public int recall(int line) {
        if (!isGood(line)) {
            return BAD;
        }
        draftCount = lengths[line];
        for (int i = 0; i < draftCount; i++) {
            draft[i] = itemAt(line, i);
        }
        return draftCount;
    }

    public int expire(int time) {
        int dropped = countBefore(time);
        for (int line = dropped; line < lineCount; line++) {
            copyLine(line, line - dropped);
        }
        lineCount -= dropped;
        return dropped;
    }

    public int lines() {
        return lineCount;
    }

    public int time(int line) {
        return isGood(line) ? times[line] : BAD;
    }

    public int length(int line) {
        return isGood(line) ? lengths[line] : BAD;
    }

    public int at(int line, int i) {
        if (!isGood(line)) {
            return BAD;
        }
        return hasPlace(line, i) ? itemAt(line, i) : NONE;
    }

    public int groups() {
        int count = 0;
        for (int line = 0; line < lineCount; line++) {
            if (firstAlike(line) == line) {
                count++;
            }
        }
        return count;
    }

    public int group(int line) {
        return isGood(line) ? firstAlike(line) : BAD;
    }

    public int members(int line) {
        if (!isGood(line)) {
            return BAD;
        }
        int count = 0;
        for (int other = 0; other < lineCount; other++) {
            if (alike(line, other)) {
                count++;
            }
        }
        return count;
    }

    public int largest(int k) {
        measureGroups();
        for (int first = 0; first < lineCount; first++) {
            if (groupSizes[first] > 0 && groupsAhead(first) == k) {
                return first;
            }
        }
        return NONE;
    }

    public int column(int line, int i, int what) {
        if (!isGood(line) || what < LEAST || what > DIFFERENT) {
            return BAD;
        }
        if (!hasPlace(line, i)) {
            return NONE;
        }
        int item = itemAt(line, i);
        if (!isNumber(item)) {
            return NONE;
        }
        switch (what) {
            case LEAST:
                return leastInColumn(line, i);
            case GREATEST:
                return greatestInColumn(line, i);
            case SUM:
                return sumOfColumn(line, i);
            default:
                return differentInColumn(line, i);
        }
    }

    public int having(int item) {
        if (!isItem(item)) {
            return BAD;
        }
        int count = 0;
        for (int line = 0; line < lineCount; line++) {
            if (contains(line, item)) {
                count++;
            }
        }
        return count;
    }

    public int part(int part) {
        if (!isPart(part)) {
            return BAD;
        }
        if (partCount >= MAX_PARTS) {
            return FULL;
        }
        pattern[partCount] = part;
        partCount++;
        return partCount;
    }

    public int blank() {
        int had = partCount;
        partCount = 0;
        return had;
    }

    public int fitting(int from, int to) {
        int count = 0;
        for (int line = 0; line < lineCount; line++) {
            if (isWithin(line, from, to) && fits(line)) {
                count++;
            }
        }
        return count;
    }

    public int next(int after) {
        for (int line = 0; line < lineCount; line++) {
            if (line > after && fits(line)) {
                return line;
            }
        }
        return NONE;
    }

    public int fittingGroups() {
        int count = 0;
        for (int line = 0; line < lineCount; line++) {
            if (fits(line) && !earlierAlikeFits(line)) {
                count++;
            }
        }
        return count;
    }

    public int between(int from, int to) {
        int count = 0;
        for (int line = 0; line < lineCount; line++) {
            if (isWithin(line, from, to)) {
                count++;
            }
        }
        return count;
    }

    public int burst(int width) {
        if (width < 1) {
            return BAD;
        }
        int most = 0;
        // A span with the most lines can always be moved to begin at the time of a line.
        for (int line = 0; line < lineCount; line++) {
            int count = countInSpanFrom(line, width);
            if (count > most) {
                most = count;
            }
        }
        return most;
    }

    public int digest() {
        int sum = 0;
        for (int line = 0; line < lineCount; line++) {
            sum += (line + 1) * (times[line] + weighItems(line));
        }
        return sum;
    }

    private static boolean isWord(int item) {
        return item >= 0 && item <= MAX_WORD;
    }

    private static boolean isNumber(int item) {
        return item >= FIRST_NUMBER && item <= LAST_NUMBER;
    }

    private static boolean isItem(int item) {
        return isWord(item) || isNumber(item);
    }

    private static boolean isAbove(int part) {
        return part >= FIRST_ABOVE && part <= LAST_ABOVE;
    }

    private static boolean isPart(int part) {
        return isItem(part) || part == ANY_ITEM || part == ANY_NUMBER || part == ANY_ROW || isAbove(part);
    }

    private boolean isGood(int line) {
        return line >= 0 && line < lineCount;
    }

    private boolean hasPlace(int line, int i) {
        return i >= 0 && i < lengths[line];
    }

    private int itemAt(int line, int i) {
        return items[line * MAX_ITEMS + i];
    }

    private int numberAt(int line, int i) {
        return items[line * MAX_ITEMS + i] - FIRST_NUMBER;
    }

    private boolean canFollow(int time) {
        if (time < 0 || time > MAX_TIME) {
            return false;
        }
        return lineCount == 0 || time >= times[lineCount - 1];
    }

    // Times never fall from line to line, so these are the lines 0 .. count - 1.
    private int countBefore(int time) {
        int count = 0;
        for (int line = 0; line < lineCount; line++) {
            if (times[line] < time) {
                count++;
            }
        }
        return count;
    }

    private void copyLine(int from, int to) {
        times[to] = times[from];
        lengths[to] = lengths[from];
        for (int i = 0; i < MAX_ITEMS; i++) {
            items[to * MAX_ITEMS + i] = items[from * MAX_ITEMS + i];
        }
    }

    private static boolean sameKind(int item, int other) {
        return item == other || (item >= FIRST_NUMBER && other >= FIRST_NUMBER);
    }

    private boolean alike(int line, int other) {
        if (lengths[line] != lengths[other]) {
            return false;
        }
        for (int i = 0; i < lengths[line]; i++) {
            int item = itemAt(line, i);
            int otherItem = itemAt(other, i);
            if (!sameKind(item, otherItem)) {
                return false;
            }
        }
        return true;
    }

    private int firstAlike(int line) {
        for (int other = 0; other < line; other++) {
            if (alike(line, other)) {
                return other;
            }
        }
        return line;
    }

    // A group's size stands at its first; every other line has 0.
    private void measureGroups() {
        for (int line = 0; line < lineCount; line++) {
            groupSizes[line] = 0;
            int first = firstAlike(line);
            groupSizes[first]++;
        }
    }

    private int groupsAhead(int first) {
        int size = groupSizes[first];
        int count = 0;
        for (int other = 0; other < lineCount; other++) {
            if (groupSizes[other] > size || (groupSizes[other] == size && other < first)) {
                count++;
            }
        }
        return count;
    }

    private int leastInColumn(int line, int i) {
        int least = numberAt(line, i);
        for (int other = 0; other < lineCount; other++) {
            if (alike(line, other) && numberAt(other, i) < least) {
                least = numberAt(other, i);
            }
        }
        return least;
    }

    private int greatestInColumn(int line, int i) {
        int greatest = numberAt(line, i);
        for (int other = 0; other < lineCount; other++) {
            if (alike(line, other) && numberAt(other, i) > greatest) {
                greatest = numberAt(other, i);
            }
        }
        return greatest;
    }

    private int sumOfColumn(int line, int i) {
        int sum = 0;
        for (int other = 0; other < lineCount; other++) {
            if (alike(line, other)) {
                sum += numberAt(other, i);
            }
        }
        return sum;
    }

    private int differentInColumn(int line, int i) {
        int count = 0;
        for (int other = 0; other < lineCount; other++) {
            if (alike(line, other) && !earlierAlikeHasSame(other, i)) {
                count++;
            }
        }
        return count;
    }

    private boolean earlierAlikeHasSame(int line, int i) {
        for (int other = 0; other < line; other++) {
            if (alike(line, other) && numberAt(other, i) == numberAt(line, i)) {
                return true;
            }
        }
        return false;
    }

    private boolean contains(int line, int item) {
        for (int i = 0; i < lengths[line]; i++) {
            if (itemAt(line, i) == item) {
                return true;
            }
        }
        return false;
    }

    private boolean isWithin(int line, int from, int to) {
        return times[line] >= from && times[line] <= to;
    }

    // Bit p of ends is set if the parts so far can take just the first p items of the line;
    // so every way of sharing out is followed at once, without going back.
    // The empty pattern fits nothing here, since a line has at least one item.
    private boolean fits(int line) {
        int ends = 1;
        for (int p = 0; p < partCount; p++) {
            if (pattern[p] == ANY_ROW) {
                ends = endsAfterRow(line, ends);
            } else {
                ends = endsAfterOne(line, ends, pattern[p]);
            }
        }
        return isSet(ends, lengths[line]);
    }

    private int endsAfterRow(int line, int ends) {
        int after = ends;
        for (int i = 0; i < lengths[line]; i++) {
            if (isSet(after, i)) {
                after |= 1 << (i + 1);
            }
        }
        return after;
    }

    private int endsAfterOne(int line, int ends, int part) {
        int after = 0;
        for (int i = 0; i < lengths[line]; i++) {
            int item = itemAt(line, i);
            if (isSet(ends, i) && takes(part, item)) {
                after |= 1 << (i + 1);
            }
        }
        return after;
    }

    private static boolean isSet(int bits, int place) {
        return ((bits >> place) & 1) == 1;
    }

    private static boolean takes(int part, int item) {
        if (part == ANY_ITEM) {
            return true;
        }
        if (part == ANY_NUMBER) {
            return isNumber(item);
        }
        if (isAbove(part)) {
            return isNumber(item) && item - FIRST_NUMBER > part - FIRST_ABOVE;
        }
        return part == item;
    }

    private boolean earlierAlikeFits(int line) {
        for (int other = 0; other < line; other++) {
            if (alike(line, other) && fits(other)) {
                return true;
            }
        }
        return false;
    }

    private int countInSpanFrom(int start, int width) {
        int count = 0;
        for (int line = start; line < lineCount; line++) {
            // The difference, not start + width, which could wrap.
            if (times[line] - times[start] < width) {
                count++;
            }
        }
        return count;
    }

    private int weighItems(int line) {
        int sum = 0;
        for (int i = 0; i < lengths[line]; i++) {
            sum += (i + 3) * itemAt(line, i);
        }
        return sum;
    }
}

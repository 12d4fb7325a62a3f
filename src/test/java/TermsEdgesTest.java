import java.util.ArrayList;
import java.util.List;
import java.util.Set;
import java.util.TreeSet;
import java.util.function.ToIntFunction;

/** The sentences of "What it is" and "Terms" that name an edge, each with a test of its own. */
public final class TermsEdgesTest {
    private static final int BAD = LineArchive.BAD;
    private static final int NONE = LineArchive.NONE;
    private static final int FULL = LineArchive.FULL;
    private static final int LEAST = Integer.MIN_VALUE;
    private static final int GREATEST = Integer.MAX_VALUE;

    private static final Set<String> CHANGES = Set.of("item", "write", "recall", "expire", "part", "blank");
    private static final Set<String> MAY_REFUSE = Set.of("item", "write", "recall", "time", "length", "at",
        "group", "members", "largest", "column", "having", "part", "next", "burst");

    public static void main(String[] args) {
        lastOfTheCalls();
        sixtyLines();
        numberedInTheirOrder();
        timesOfLines();
        timesDoNotFall();
        oneToEightItems();
        words();
        numbers();
        draftOfEight();
        draftEmptyAtFirst();
        alikeHaveAsManyItems();
        alikeHaveTheSameWord();
        alikeBothHaveANumber();
        firstIsTheLeast();
        patternOfEight();
        patternEmptyAtFirst();
        partIsAnItem();
        partAnyItem();
        partAnyNumber();
        partAnyRow();
        partAbove();
        noOtherParts();
        sharedOutInOrder();
        noneLeftOver();
        emptyPattern();
        testsInTheOrderNamed();
        goodLines();
        refusedCallsChangeNothing();
        questionsChangeNothing();
        Check.finish();
    }

    private static void lastOfTheCalls() {
        Check.sentence("What it is", "An object is used for at most 512 calls after it has been made");
        LineArchive a = Check.sixtyLines();
        int calls = 120;
        for (; calls < 509; calls++) {
            Check.due("call " + (calls + 1) + ": digest()", a.digest(), a60Digest());
        }
        Check.due("call 510: item(1)", a.item(1), 1);
        Check.due("call 511: expire(59)", a.expire(59), 59);
        Check.due("call 512: write(1000)", a.write(1000), 1);
    }

    private static int a60Digest() {
        int sum = 0;
        for (int line = 0; line < 60; line++) {
            sum += (line + 1) * (line + 3 * (1000 + line));
        }
        return sum;
    }

    private static void sixtyLines() {
        Check.sentence("Terms", "THE LINES are a row of at most 60 lines");
        LineArchive a = new LineArchive();
        for (int line = 0; line < 60; line++) {
            a.item(line % 24);
            Check.due("write of line " + line, a.write(0), line);
        }
        a.item(1);
        Check.due("write of a line more", a.write(0), FULL);
        Check.due("lines()", a.lines(), 60);
        for (int line = 0; line < 60; line++) {
            Check.due("at(" + line + ", 0)", a.at(line, 0), line % 24);
        }
    }

    private static void numberedInTheirOrder() {
        Check.sentence("Terms", "numbered 0, 1, .. in their order");
        LineArchive a = Check.sixtyLines();
        Check.lineIs("first", a, 0, 0, 1000);
        Check.lineIs("second", a, 1, 1, 1001);
        Check.lineIs("last", a, 59, 59, 1059);
        Check.due("time(60)", a.time(60), BAD);
    }

    private static void timesOfLines() {
        Check.sentence("Terms", "A line has a TIME 0 .. 1000");
        for (int time = 0; time <= 1000; time++) {
            LineArchive a = new LineArchive();
            Check.due("write(" + time + ")", Check.write(a, time, 1), 0);
            Check.due("time(0)", a.time(0), time);
        }
        int[] wrong = {LEAST, -1000, -1, 1001, 2000, GREATEST};
        for (int time : wrong) {
            Check.due("write(" + time + ")", Check.write(new LineArchive(), time, 1), BAD);
        }
    }

    private static void timesDoNotFall() {
        Check.sentence("Terms", "not below that of the line before it");
        for (int last = 0; last <= 1000; last += 100) {
            LineArchive a = new LineArchive();
            Check.write(a, last, 1);
            a.item(2);
            Check.due("write one below " + last, a.write(last - 1), BAD);
            Check.due("write at " + last, a.write(last), 1);
        }
    }

    private static void oneToEightItems() {
        Check.sentence("Terms", "one to eight ITEMS");
        for (int length = 1; length <= 8; length++) {
            LineArchive a = new LineArchive();
            int[] items = new int[length];
            for (int i = 0; i < length; i++) {
                items[i] = i;
            }
            Check.due("write of " + length, Check.write(a, 0, items), 0);
            Check.lineIs("length " + length, a, 0, 0, items);
        }
        Check.due("write of none", new LineArchive().write(0), NONE);
    }

    private static void words() {
        Check.sentence("Terms", "An item is a word 0 .. 23");
        for (int word = -30; word < 1000; word++) {
            boolean isOne = word >= 0 && word <= 23;
            LineArchive a = new LineArchive();
            Check.due("item(" + word + ")", a.item(word), isOne ? 1 : BAD);
            Check.due("having(" + word + ")", a.having(word), isOne ? 0 : BAD);
            Check.due("part(" + word + ")", a.part(word), isOne ? 1 : BAD);
        }
    }

    private static void numbers() {
        Check.sentence("Terms", "or a number 0 .. 999, written 1000 + the number (1000 .. 1999)");
        for (int number = 990; number < 2010; number++) {
            boolean isOne = number >= 1000 && number <= 1999;
            LineArchive a = new LineArchive();
            Check.due("item(" + number + ")", a.item(number), isOne ? 1 : BAD);
            Check.due("having(" + number + ")", a.having(number), isOne ? 0 : BAD);
            Check.due("write(0)", a.write(0), isOne ? 0 : NONE);
            Check.due("at(0, 0)", a.at(0, 0), isOne ? number : BAD);
            Check.due("column(0, 0, 0)", a.column(0, 0, 0), isOne ? number - 1000 : BAD);
        }
    }

    private static void draftOfEight() {
        Check.sentence("Terms", "There is a DRAFT, a row of at most eight items");
        LineArchive a = new LineArchive();
        for (int i = 0; i < 8; i++) {
            Check.due("item " + i, a.item(i), i + 1);
        }
        Check.due("one item more", a.item(8), FULL);
        a.write(0);
        Check.lineIs("eight items", a, 0, 0, 0, 1, 2, 3, 4, 5, 6, 7);
    }

    private static void draftEmptyAtFirst() {
        Check.sentence("Terms", "a row of at most eight items, empty at first");
        Check.due("write(0) at first", new LineArchive().write(0), NONE);
        Check.due("item(0) at first", new LineArchive().item(0), 1);
    }

    private static void alike(boolean are, int[] one, int[] other) {
        LineArchive a = new LineArchive();
        Check.write(a, 0, one);
        Check.write(a, 0, other);
        Check.due("groups()", a.groups(), are ? 1 : 2);
        Check.due("group(1)", a.group(1), are ? 0 : 1);
        Check.due("members(0)", a.members(0), are ? 2 : 1);
        Check.due("members(1)", a.members(1), are ? 2 : 1);
    }

    private static int[] row(int... items) {
        return items;
    }

    private static void alikeHaveAsManyItems() {
        Check.sentence("Terms", "Two lines are ALIKE if they have as many items");
        alike(false, row(0), row(0, 0));
        alike(false, row(0, 0), row(0));
        alike(false, row(1, 2, 3, 4, 5, 6, 7), row(1, 2, 3, 4, 5, 6, 7, 8));
        alike(false, row(1, 2, 3, 4, 5, 6, 7, 1008), row(1, 2, 3, 4, 5, 6, 7));
        alike(true, row(0), row(0));
        alike(true, row(1, 2, 3, 4, 5, 6, 7, 8), row(1, 2, 3, 4, 5, 6, 7, 8));
    }

    private static void alikeHaveTheSameWord() {
        Check.sentence("Terms", "at every place both have the same word");
        for (int place = 0; place < 8; place++) {
            int[] one = {0, 23, 5, 1005, 6, 7, 8, 9};
            int[] other = one.clone();
            one[place] = 22;
            other[place] = 23;
            alike(false, one, other);
            one[place] = 23;
            alike(true, one, other);
        }
    }

    private static void alikeBothHaveANumber() {
        Check.sentence("Terms", "or both have a number");
        for (int place = 0; place < 8; place++) {
            int[] one = {0, 23, 5, 1005, 6, 7, 8, 9};
            int[] other = one.clone();
            one[place] = 1000;
            other[place] = 1999;
            alike(true, one, other);
            other[place] = 0;
            alike(false, one, other);
            alike(false, other, one);
            other[place] = 23;
            alike(false, one, other);
            alike(false, other, one);
        }
    }

    private static void firstIsTheLeast() {
        Check.sentence("Terms", "its FIRST is the one with the least number");
        LineArchive a = Check.sixtyLines();
        for (int line = 0; line < 60; line++) {
            Check.due("group(" + line + ")", a.group(line), 0);
        }
        Check.due("largest(0)", a.largest(0), 0);
    }

    private static void patternOfEight() {
        Check.sentence("Terms", "There is a PATTERN, a row of at most eight PARTS");
        LineArchive a = new LineArchive();
        Check.write(a, 0, 0, 1, 2, 3, 4, 5, 6, 7);
        for (int p = 0; p < 8; p++) {
            Check.due("part " + p, a.part(p), p + 1);
        }
        Check.due("one part more", a.part(8), FULL);
        Check.due("fitting(0, 0) of the eight", a.fitting(0, 0), 1);
        Check.due("blank()", a.blank(), 8);
    }

    private static void patternEmptyAtFirst() {
        Check.sentence("Terms", "a row of at most eight PARTS, empty at first");
        Check.due("blank() at first", new LineArchive().blank(), 0);
        Check.due("part(0) at first", new LineArchive().part(0), 1);
    }

    private static void fits(int[] line, boolean does, int... parts) {
        LineArchive a = new LineArchive();
        Check.write(a, 0, line);
        for (int part : parts) {
            a.part(part);
        }
        StringBuilder row = new StringBuilder();
        for (int item : line) {
            row.append(item).append(' ');
        }
        row.append("by");
        for (int part : parts) {
            row.append(' ').append(part);
        }
        Check.due(row + ": fitting(0, 0)", a.fitting(0, 0), does ? 1 : 0);
        Check.due(row + ": next(-1)", a.next(-1), does ? 0 : NONE);
        Check.due(row + ": fittingGroups()", a.fittingGroups(), does ? 1 : 0);
    }

    private static final int[] SOME_ITEMS = {0, 1, 22, 23, 1000, 1001, 1022, 1023, 1024, 1500, 1998, 1999};

    private static void partIsAnItem() {
        Check.sentence("Terms", "A part is an item");
        for (int part : SOME_ITEMS) {
            for (int item : SOME_ITEMS) {
                fits(row(item), part == item, part);
            }
        }
    }

    private static void partAnyItem() {
        Check.sentence("Terms", "2000: any one item");
        for (int item : SOME_ITEMS) {
            fits(row(item), true, 2000);
            fits(row(item, item), false, 2000);
            fits(row(item), false, 2000, 2000);
        }
    }

    private static void partAnyNumber() {
        Check.sentence("Terms", "2001: any one number");
        for (int item : SOME_ITEMS) {
            fits(row(item), item >= 1000, 2001);
            fits(row(item, item), false, 2001);
            fits(row(item), false, 2001, 2001);
        }
    }

    private static void partAnyRow() {
        Check.sentence("Terms", "2002: any row of items, also none");
        int[] eight = {5, 1005, 6, 1006, 7, 1007, 8, 1008};
        for (int length = 1; length <= 8; length++) {
            int[] line = new int[length];
            System.arraycopy(eight, 0, line, 0, length);
            fits(line, true, 2002);
            fits(line, true, 2002, 2002);
            fits(line, true, 2002, line[length - 1]);
            fits(line, true, line[0], 2002);
            fits(line, true, 2002, line[length / 2], 2002);
            fits(line, length > 1, line[0], 2002, line[length - 1]);
        }
        fits(row(5), true, 2002, 2002, 2002, 5, 2002, 2002, 2002, 2002);
        fits(eight, true, 2002, 2002, 2002, 2002, 2002, 2002, 2002, 2002);
    }

    private static void partAbove() {
        Check.sentence("Terms", "or 3000 + n (3000 .. 3999): any one number above n");
        int[] edges = {0, 1, 2, 23, 499, 500, 997, 998, 999};
        for (int n : edges) {
            for (int number : edges) {
                fits(row(1000 + number), number > n, 3000 + n);
            }
            fits(row(0), false, 3000 + n);
            fits(row(23), false, 3000 + n);
            fits(row(1999, 1999), false, 3000 + n);
        }
    }

    private static void noOtherParts() {
        Check.sentence("Terms", "A part is an item; or 2000: any one item; 2001: any one number; "
            + "2002: any row of items, also none; or 3000 + n (3000 .. 3999)");
        for (int part = -30; part < 5000; part++) {
            boolean isItem = (part >= 0 && part <= 23) || (part >= 1000 && part <= 1999);
            boolean isOne = isItem || (part >= 2000 && part <= 2002) || (part >= 3000 && part <= 3999);
            Check.due("part(" + part + ")", new LineArchive().part(part), isOne ? 1 : BAD);
        }
        Check.due("part(least)", new LineArchive().part(LEAST), BAD);
        Check.due("part(greatest)", new LineArchive().part(GREATEST), BAD);
    }

    private static void sharedOutInOrder() {
        Check.sentence("Terms",
            "A line FITS the pattern if its items can be shared out among the parts, in their order");
        fits(row(1, 2, 3), true, 1, 2, 3);
        fits(row(1, 2, 3), false, 3, 2, 1);
        fits(row(1, 2, 3), false, 2002, 2, 1, 2002);
        fits(row(1, 2, 3), true, 2002, 1, 2002, 3);
        // The first way to share out is not the right one.
        fits(row(1, 1, 2), true, 2002, 1, 2);
        fits(row(1, 2, 1, 3, 1, 2, 1, 4), true, 2002, 1, 2002, 1, 4);
        fits(row(1, 2, 1, 3, 1, 2, 1, 4), false, 2002, 3, 2002, 3, 2002);
        fits(row(1, 1, 1, 1, 1, 1, 1, 1), false, 2002, 1, 2002, 1, 2002, 1, 2002, 2);
    }

    private static void noneLeftOver() {
        Check.sentence("Terms", "with none left over");
        fits(row(1, 2), false, 1);
        fits(row(1, 2), false, 2);
        fits(row(1, 2), false, 2000);
        fits(row(1, 2), false, 2002, 1);
        fits(row(1, 2), false, 2, 2002);
        fits(row(1), false, 1, 1);
        fits(row(1), false, 1, 2000);
        fits(row(1, 2, 3, 4, 5, 6, 7, 8), false, 1, 2, 3, 4, 5, 6, 7);
        fits(row(1, 2, 3, 4, 5, 6, 7, 8), false, 2, 3, 4, 5, 6, 7, 8);
        fits(row(1, 2, 3, 4, 5, 6, 7, 8), true, 1, 2, 3, 4, 5, 6, 7, 8);
        fits(row(1, 2, 3, 4, 5, 6, 7), false, 1, 2, 3, 4, 5, 6, 7, 8);
    }

    private static void emptyPattern() {
        Check.sentence("Terms", "(A line does not fit the empty pattern.)");
        fits(row(0), false);
        fits(row(1000), false);
        fits(row(0, 0, 0, 0, 0, 0, 0, 0), false);
        LineArchive a = Check.sixtyLines();
        a.part(2002);
        Check.due("fitting(0, 1000) before blank", a.fitting(0, 1000), 60);
        a.blank();
        Check.due("fitting(0, 1000) after blank", a.fitting(0, 1000), 0);
        Check.due("next(-1) after blank", a.next(-1), NONE);
        Check.due("fittingGroups() after blank", a.fittingGroups(), 0);
    }

    private static void testsInTheOrderNamed() {
        Check.sentence("Terms", "In every method the tests are made in the order named");
        LineArchive a = FULL_ONE.make();
        Check.due("item not one, draft of eight", a.item(24), BAD);
        Check.due("part not one, pattern of eight", a.part(24), BAD);
        Check.due("write at a wrong time, 60 lines", a.write(1001), BAD);
        Check.due("write below the last time, 60 lines", a.write(58), BAD);
        Check.due("write, draft not empty, 60 lines", a.write(59), FULL);
        Check.due("at, no line and no place", a.at(60, 8), BAD);
        Check.due("column, no line and no place", a.column(60, 8, 0), BAD);
        Check.due("column, no such what and no place", a.column(0, 8, 4), BAD);
        Check.due("column, no such what and a word", a.column(0, 0, 4), BAD);
        LineArchive b = Check.sixtyLines();
        Check.due("write of no draft, 60 lines", b.write(59), NONE);
        Check.due("write of no draft at a wrong time, 60 lines", b.write(-1), BAD);
        Check.due("write of no draft below the last time, 60 lines", b.write(58), BAD);
        Check.due("write of no draft at a wrong time, no lines", new LineArchive().write(1001), BAD);
    }

    private static void goodLines() {
        Check.sentence("Terms", "a line is good if there is one with its number");
        for (int count = 0; count <= 60; count++) {
            LineArchive a = Check.sixtyLines();
            a.expire(60 - count);
            int[] asked = {LEAST, -60, -1, 0, count - 1, count, count + 1, 59, 60, 61, GREATEST};
            for (int line : asked) {
                boolean good = line >= 0 && line < count;
                String of = "(" + line + ") of " + count;
                Check.due("time" + of, a.time(line), good ? 60 - count + line : BAD);
                Check.due("length" + of, a.length(line), good ? 1 : BAD);
                Check.due("at" + of, a.at(line, 0), good ? 1060 - count + line : BAD);
                Check.due("group" + of, a.group(line), good ? 0 : BAD);
                Check.due("members" + of, a.members(line), good ? count : BAD);
                Check.due("column" + of, a.column(line, 0, 1), good ? 59 : BAD);
                Check.due("recall" + of, a.recall(line), good ? 1 : BAD);
            }
        }
    }

    private record Call(String method, String name, ToIntFunction<LineArchive> on) {
    }

    private interface OneInt {
        int on(LineArchive a, int x);
    }

    private interface TwoInts {
        int on(LineArchive a, int x, int y);
    }

    private static void addOne(List<Call> calls, String method, OneInt of) {
        int[] values = {LEAST, -1, 0, 1, 2, 3, 5, 23, 24, 58, 59, 60, 999, 1000, 1001, 1999, 2000, 2001, 2002,
            2003, 2999, 3000, 3999, 4000, GREATEST};
        for (int x : values) {
            calls.add(new Call(method, method + "(" + x + ")", a -> of.on(a, x)));
        }
    }

    private static void addTwo(List<Call> calls, String method, TwoInts of) {
        int[] values = {LEAST, -1, 0, 1, 7, 8, 59, 60, 1000, GREATEST};
        for (int x : values) {
            for (int y : values) {
                calls.add(new Call(method, method + "(" + x + ", " + y + ")", a -> of.on(a, x, y)));
            }
        }
    }

    private static List<Call> allCalls() {
        List<Call> calls = new ArrayList<>();
        addOne(calls, "item", LineArchive::item);
        addOne(calls, "write", LineArchive::write);
        addOne(calls, "recall", LineArchive::recall);
        addOne(calls, "expire", LineArchive::expire);
        addOne(calls, "time", LineArchive::time);
        addOne(calls, "length", LineArchive::length);
        addOne(calls, "group", LineArchive::group);
        addOne(calls, "members", LineArchive::members);
        addOne(calls, "largest", LineArchive::largest);
        addOne(calls, "having", LineArchive::having);
        addOne(calls, "part", LineArchive::part);
        addOne(calls, "next", LineArchive::next);
        addOne(calls, "burst", LineArchive::burst);
        addTwo(calls, "at", LineArchive::at);
        addTwo(calls, "fitting", LineArchive::fitting);
        addTwo(calls, "between", LineArchive::between);
        for (int what = -1; what <= 4; what++) {
            int asked = what;
            addTwo(calls, "column", (a, line, i) -> a.column(line, i, asked));
        }
        calls.add(new Call("lines", "lines()", LineArchive::lines));
        calls.add(new Call("groups", "groups()", LineArchive::groups));
        calls.add(new Call("blank", "blank()", LineArchive::blank));
        calls.add(new Call("fittingGroups", "fittingGroups()", LineArchive::fittingGroups));
        calls.add(new Call("digest", "digest()", LineArchive::digest));
        return calls;
    }

    /** What an archive holds, as the test knows it without asking: a line is its time and its items. */
    private record State(int[][] lines, int[] draft, int[] pattern, int fitting) {
        private LineArchive make() {
            LineArchive a = new LineArchive();
            for (int[] line : lines) {
                for (int i = 1; i < line.length; i++) {
                    a.item(line[i]);
                }
                a.write(line[0]);
            }
            for (int item : draft) {
                a.item(item);
            }
            for (int part : pattern) {
                a.part(part);
            }
            return a;
        }

        private List<Integer> due() {
            List<Integer> due = new ArrayList<>();
            due.add(lines.length);
            for (int[] line : lines) {
                due.add(line[0]);
                due.add(line.length - 1);
                due.add(line[1]);
                due.add(line[line.length - 1]);
            }
            due.add(fitting);
            due.add(pattern.length);
            due.add(lines.length);
            due.add(draft.length == 0 ? NONE : 0);
            for (int item : draft) {
                due.add(item);
            }
            return due;
        }
    }

    /** The lines, the pattern and the draft, in the form of State.due; the archive is used up by it. */
    private static List<Integer> seen(LineArchive a) {
        List<Integer> seen = new ArrayList<>();
        int lines = a.lines();
        seen.add(lines);
        for (int line = 0; line < lines; line++) {
            int length = a.length(line);
            seen.add(a.time(line));
            seen.add(length);
            seen.add(a.at(line, 0));
            seen.add(a.at(line, length - 1));
        }
        seen.add(a.fitting(LEAST, GREATEST));
        seen.add(a.blank());
        seen.add(a.expire(GREATEST));
        seen.add(a.write(0));
        int draft = a.length(0);
        for (int i = 0; i < draft; i++) {
            seen.add(a.at(0, i));
        }
        return seen;
    }

    private static final int[] NOTHING = {};
    private static final int[] EIGHT = {1, 2, 3, 4, 5, 6, 7, 8};
    private static final int[][] THREE_LINES = {{3, 1, 1002}, {5, 4, 5, 6, 7, 8, 9, 10, 1011}, {5, 1, 1003}};

    private static int[][] sixtyOtherLines() {
        int[][] lines = new int[60][];
        lines[0] = row(0, 1, 2, 3, 4, 5, 6, 7, 8);
        for (int line = 1; line < 60; line++) {
            lines[line] = row(line, line % 2 == 0 ? line % 24 : 1000 + line);
        }
        return lines;
    }

    private static final State FULL_ONE =
        new State(sixtyOtherLines(), row(1100, 1101, 1102, 1103, 1104, 1105, 1106, 1107), EIGHT, 1);

    private static final List<State> STATES = List.of(
        new State(new int[0][], NOTHING, NOTHING, 0),
        new State(THREE_LINES, NOTHING, NOTHING, 0),
        new State(THREE_LINES, row(20, 1021), row(1, 3002), 1),
        new State(sixtyOtherLines(), NOTHING, row(2002, 1059), 1),
        FULL_ONE);

    private static void isAsBefore(String name, LineArchive a, State state) {
        List<Integer> got = seen(a);
        List<Integer> want = state.due();
        Check.holds(name + " changes nothing: seen then " + got + ", before " + want, got.equals(want));
    }

    private static void refusedCallsChangeNothing() {
        Check.sentence("Terms", "A refused call (an answer below 0) changes nothing.");
        Set<String> refused = new TreeSet<>();
        for (State state : STATES) {
            for (Call call : allCalls()) {
                LineArchive a = state.make();
                if (call.on.applyAsInt(a) < 0) {
                    refused.add(call.method);
                    isAsBefore(call.name, a, state);
                }
            }
        }
        Check.holds("the methods with refused calls are " + MAY_REFUSE + ", found " + refused,
            refused.equals(MAY_REFUSE));
    }

    private static void questionsChangeNothing() {
        Check.sentence("Terms", "Questions change nothing.");
        for (State state : STATES) {
            for (Call call : allCalls()) {
                if (!CHANGES.contains(call.method)) {
                    LineArchive a = state.make();
                    int answer = call.on.applyAsInt(a);
                    Check.due(call.name + " asked again", call.on.applyAsInt(a), answer);
                    isAsBefore(call.name, a, state);
                }
            }
        }
    }
}

/** The sentences of promises 1 to 5 that name an edge, each with a test of its own. */
public final class DraftAndLinesEdgesTest {
    private static final int BAD = LineArchive.BAD;
    private static final int NONE = LineArchive.NONE;
    private static final int FULL = LineArchive.FULL;
    private static final int LEAST = Integer.MIN_VALUE;
    private static final int GREATEST = Integer.MAX_VALUE;
    private static final int[] NOT_ITEMS = {LEAST, -1000, -1, 24, 25, 999, 2000, 2001, 2002, 3000, 3999, GREATEST};

    public static void main(String[] args) {
        promise1AsSaidAbove();
        promise1NoLines();
        promise2Appends();
        promise2NotAnItem();
        promise2HasEight();
        promise2HowManyThen();
        promise3LineAtTheEnd();
        promise3EmptyThen();
        promise3TimeOutOfRange();
        promise3TimeBelowTheLast();
        promise3EmptyDraft();
        promise3SixtyLines();
        promise3NumberOfTheLine();
        promise4BecomesTheItems();
        promise4NotGood();
        promise4HowManyThen();
        promise5Dropped();
        promise5AnyInt();
        promise5NumbersFromZero();
        promise5HowMany();
        Check.finish();
    }

    private static void promise1AsSaidAbove() {
        Check.sentence("Promise 1", "As said above");
        Check.due("the draft is empty: write(0)", new LineArchive().write(0), NONE);
        Check.due("the pattern is empty: blank()", new LineArchive().blank(), 0);
        Check.due("no last line: write(0)", Check.write(new LineArchive(), 0, 1), 0);
    }

    private static void promise1NoLines() {
        Check.sentence("Promise 1", "no lines");
        LineArchive a = new LineArchive();
        Check.due("lines()", a.lines(), 0);
        Check.due("groups()", a.groups(), 0);
        Check.due("between(least, greatest)", a.between(LEAST, GREATEST), 0);
        Check.due("time(0)", a.time(0), BAD);
        Check.due("expire(greatest)", a.expire(GREATEST), 0);
    }

    private static void promise2Appends() {
        Check.sentence("Promise 2", "Appends an item to the draft.");
        LineArchive a = new LineArchive();
        Check.write(a, 0, 0, 23, 1000, 1999, 0, 23, 1000, 1999);
        Check.lineIs("the edges of items, in their order", a, 0, 0, 0, 23, 1000, 1999, 0, 23, 1000, 1999);
        Check.write(a, 0, 3);
        a.recall(1);
        a.item(1004);
        a.write(0);
        Check.lineIs("to a recalled draft", a, 2, 0, 3, 1004);
    }

    private static void promise2NotAnItem() {
        Check.sentence("Promise 2", "item is not one: BAD");
        for (int had = 0; had <= 8; had++) {
            LineArchive a = new LineArchive();
            for (int i = 0; i < had; i++) {
                a.item(i);
            }
            for (int item : NOT_ITEMS) {
                Check.due("item(" + item + ") with " + had, a.item(item), BAD);
            }
            a.write(0);
            Check.due("how many the draft had", a.length(0), had == 0 ? BAD : had);
        }
    }

    private static void promise2HasEight() {
        Check.sentence("Promise 2", "it has eight: FULL");
        LineArchive a = new LineArchive();
        for (int i = 0; i < 8; i++) {
            a.item(i);
        }
        int[] items = {0, 23, 1000, 1999};
        for (int item : items) {
            Check.due("item(" + item + ") with eight", a.item(item), FULL);
        }
        a.write(0);
        Check.lineIs("the eight", a, 0, 0, 0, 1, 2, 3, 4, 5, 6, 7);
        a.recall(0);
        Check.due("item(0) with eight recalled", a.item(0), FULL);
    }

    private static void promise2HowManyThen() {
        Check.sentence("Promise 2", "Else answers how many it has then.");
        LineArchive a = new LineArchive();
        for (int round = 0; round < 2; round++) {
            for (int i = 0; i < 8; i++) {
                Check.due("item " + i + " in round " + round, a.item(1000), i + 1);
            }
            a.write(0);
        }
        Check.write(a, 0, 1, 2, 3);
        a.recall(2);
        Check.due("item after a recall of three", a.item(4), 4);
    }

    private static void promise3LineAtTheEnd() {
        Check.sentence("Promise 3", "The draft becomes a line at the end");
        LineArchive a = new LineArchive();
        for (int line = 0; line < 60; line++) {
            Check.write(a, 7, 1000 + line, line % 24);
            Check.due("lines() after write " + line, a.lines(), line + 1);
        }
        Check.lineIs("first", a, 0, 7, 1000, 0);
        Check.lineIs("next to last", a, 58, 7, 1058, 10);
        Check.lineIs("last", a, 59, 7, 1059, 11);
    }

    private static void promise3EmptyThen() {
        Check.sentence("Promise 3", "and is empty then");
        for (int length = 1; length <= 8; length++) {
            LineArchive a = new LineArchive();
            for (int i = 0; i < length; i++) {
                a.item(i);
            }
            a.write(0);
            Check.due("write again, after " + length, a.write(0), NONE);
            Check.due("item(9) after " + length, a.item(9), 1);
            a.write(0);
            Check.lineIs("the next line, after " + length, a, 1, 0, 9);
        }
    }

    private static void promise3TimeOutOfRange() {
        Check.sentence("Promise 3", "time is not 0 .. 1000");
        LineArchive a = new LineArchive();
        int[] wrong = {LEAST, -1001, -1, 1001, 1002, GREATEST};
        a.item(1);
        for (int time : wrong) {
            Check.due("write(" + time + ")", a.write(time), BAD);
        }
        Check.due("write(0)", a.write(0), 0);
        a.item(2);
        Check.due("write(1000)", a.write(1000), 1);
        a.item(3);
        for (int time : wrong) {
            Check.due("write(" + time + ") after lines", a.write(time), BAD);
        }
    }

    private static void promise3TimeBelowTheLast() {
        Check.sentence("Promise 3", "or is below the time of the last line: BAD");
        LineArchive a = new LineArchive();
        Check.write(a, 3, 1);
        Check.write(a, 8, 2);
        a.item(3);
        Check.due("write(0)", a.write(0), BAD);
        Check.due("write(3), the time of an earlier line", a.write(3), BAD);
        Check.due("write(7)", a.write(7), BAD);
        Check.due("write(8)", a.write(8), 2);
        a.expire(8);
        a.item(4);
        Check.due("write(7), earlier lines dropped", a.write(7), BAD);
        a.expire(9);
        Check.due("write(0), all lines dropped", a.write(0), 0);
    }

    private static void promise3EmptyDraft() {
        Check.sentence("Promise 3", "the draft is empty: NONE");
        LineArchive a = new LineArchive();
        Check.due("write(0)", a.write(0), NONE);
        Check.due("write(1000)", a.write(1000), NONE);
        Check.write(a, 5, 1);
        Check.due("write(5)", a.write(5), NONE);
        Check.due("lines()", a.lines(), 1);
        Check.due("write(59) of 60 lines", Check.sixtyLines().write(59), NONE);
    }

    private static void promise3SixtyLines() {
        Check.sentence("Promise 3", "there are 60 lines: FULL");
        LineArchive a = Check.sixtyLines();
        a.item(5);
        a.item(6);
        Check.due("write(59) with 60", a.write(59), FULL);
        Check.due("write(1000) with 60", a.write(1000), FULL);
        Check.due("lines()", a.lines(), 60);
        Check.lineIs("the last is as it was", a, 59, 59, 1059);
        a.expire(1);
        Check.due("write(59) with 59", a.write(59), 59);
        Check.lineIs("the draft was kept", a, 59, 59, 5, 6);
    }

    private static void promise3NumberOfTheLine() {
        Check.sentence("Promise 3", "Else answers the number of the line.");
        LineArchive a = new LineArchive();
        for (int line = 0; line < 60; line++) {
            a.item(1);
            Check.due("write " + line, a.write(line), line);
        }
        a.expire(59);
        a.item(1);
        Check.due("write with one line left", a.write(59), 1);
        a.expire(60);
        a.item(1);
        Check.due("write with none left", a.write(59), 0);
    }

    private static void promise4BecomesTheItems() {
        Check.sentence("Promise 4", "The draft becomes the items of a line.");
        for (int had = 0; had <= 8; had++) {
            LineArchive a = new LineArchive();
            Check.write(a, 0, 20);
            Check.write(a, 0, 10, 1011, 12, 1013, 14, 1015, 16, 1017);
            for (int round = 0; round < 2; round++) {
                for (int i = 0; i < had; i++) {
                    a.item(i);
                }
                a.recall(round);
                a.write(0);
            }
            Check.lineIs("one item, on a draft of " + had, a, 2, 0, 20);
            Check.lineIs("eight, on a draft of " + had, a, 3, 0, 10, 1011, 12, 1013, 14, 1015, 16, 1017);
            Check.lineIs("the line recalled stays", a, 1, 0, 10, 1011, 12, 1013, 14, 1015, 16, 1017);
        }
        LineArchive full = Check.sixtyLines();
        full.recall(59);
        full.expire(60);
        full.write(0);
        Check.lineIs("the last of 60", full, 0, 0, 1059);
    }

    private static void promise4NotGood() {
        Check.sentence("Promise 4", "line is not good: BAD");
        LineArchive a = new LineArchive();
        Check.due("recall(0) of no lines", a.recall(0), BAD);
        Check.write(a, 0, 1, 2);
        Check.write(a, 1, 3, 4);
        a.item(5);
        int[] wrong = {LEAST, -1, 2, 59, 60, GREATEST};
        for (int line : wrong) {
            Check.due("recall(" + line + ")", a.recall(line), BAD);
        }
        a.expire(1);
        Check.due("recall(1) of a line dropped", a.recall(1), BAD);
        a.write(1);
        Check.lineIs("the draft was kept", a, 1, 1, 5);
        Check.due("recall(60) of 60", Check.sixtyLines().recall(60), BAD);
    }

    private static void promise4HowManyThen() {
        Check.sentence("Promise 4", "Else answers how many it has then.");
        LineArchive a = new LineArchive();
        for (int length = 1; length <= 8; length++) {
            for (int i = 0; i < length; i++) {
                a.item(i);
            }
            a.write(0);
        }
        for (int length = 1; length <= 8; length++) {
            Check.due("recall of " + length, a.recall(length - 1), length);
        }
        Check.due("recall of 1, on a draft of 8", a.recall(0), 1);
    }

    private static void promise5Dropped() {
        Check.sentence("Promise 5", "All lines with a time below this one are dropped");
        for (int time = 0; time <= 60; time++) {
            LineArchive a = Check.sixtyLines();
            a.expire(time);
            Check.due("lines() after expire(" + time + ")", a.lines(), 60 - time);
            Check.due("time(0) after expire(" + time + ")", a.time(0), time < 60 ? time : BAD);
        }
        LineArchive same = new LineArchive();
        Check.write(same, 4, 1);
        Check.write(same, 5, 2);
        Check.write(same, 5, 3);
        same.expire(5);
        Check.due("lines() at the very time stay", same.lines(), 2);
        same.expire(6);
        Check.due("lines() one above it", same.lines(), 0);
    }

    private static void promise5AnyInt() {
        Check.sentence("Promise 5", "`int expire(int time)`");
        LineArchive a = new LineArchive();
        Check.write(a, 0, 1);
        Check.write(a, 1000, 2);
        int[] low = {LEAST, -1, 0};
        for (int time : low) {
            Check.due("expire(" + time + ")", a.expire(time), 0);
            Check.due("lines() after expire(" + time + ")", a.lines(), 2);
        }
        Check.due("expire(1)", a.expire(1), 1);
        Check.due("expire(1000)", a.expire(1000), 0);
        Check.due("expire(1001)", a.expire(1001), 1);
        Check.due("expire(greatest) of none", a.expire(GREATEST), 0);
        Check.write(a, 1000, 3);
        Check.due("expire(greatest)", a.expire(GREATEST), 1);
    }

    private static void promise5NumbersFromZero() {
        Check.sentence("Promise 5", "later ones get numbers from 0 on, in their order");
        LineArchive a = Check.sixtyLines();
        a.expire(1);
        for (int line = 0; line < 59; line++) {
            Check.due("one dropped: at(" + line + ", 0)", a.at(line, 0), 1001 + line);
            Check.due("one dropped: time(" + line + ")", a.time(line), 1 + line);
        }
        Check.due("one dropped: time(59)", a.time(59), BAD);
        a.expire(59);
        Check.lineIs("all but one dropped", a, 0, 59, 1059);
        Check.due("all but one dropped: time(1)", a.time(1), BAD);
        LineArchive b = new LineArchive();
        Check.write(b, 0, 1);
        Check.write(b, 1, 10, 11, 12, 13, 14, 15, 16, 1017);
        Check.write(b, 1, 2, 3);
        b.expire(1);
        Check.lineIs("eight items in place of one", b, 0, 1, 10, 11, 12, 13, 14, 15, 16, 1017);
        Check.lineIs("two items in place of eight", b, 1, 1, 2, 3);
    }

    private static void promise5HowMany() {
        Check.sentence("Promise 5", "Answers how many are dropped.");
        for (int time = 0; time <= 60; time++) {
            LineArchive a = Check.sixtyLines();
            Check.due("expire(" + time + ")", a.expire(time), time);
            Check.due("expire(" + time + ") again", a.expire(time), 0);
        }
        Check.due("expire(1000) of no lines", new LineArchive().expire(1000), 0);
    }
}

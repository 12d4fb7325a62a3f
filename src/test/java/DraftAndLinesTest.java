/** Promises 1 to 5: the new object, and the calls that change the draft and the lines. */
public final class DraftAndLinesTest {
    private static final int BAD = LineArchive.BAD;
    private static final int NONE = LineArchive.NONE;
    private static final int FULL = LineArchive.FULL;

    public static void main(String[] args) {
        promise1NewObject();
        promise1ObjectsAreApart();
        promise2Item();
        promise2WrongItems();
        promise2FullDraft();
        promise3Write();
        promise3Times();
        promise3FullArchive();
        promise3OrderOfTests();
        promise4Recall();
        promise4RecallRefused();
        promise5Expire();
        promise5ExpireEdges();
        Check.finish();
    }

    private static void promise1NewObject() {
        Check.due("BAD", LineArchive.BAD, -1);
        Check.due("NONE", LineArchive.NONE, -2);
        Check.due("FULL", LineArchive.FULL, -3);
        LineArchive a = new LineArchive();
        Check.due("new: lines()", a.lines(), 0);
        Check.due("new: groups()", a.groups(), 0);
        Check.due("new: largest(0)", a.largest(0), NONE);
        Check.due("new: digest()", a.digest(), 0);
        Check.due("new: burst(1)", a.burst(1), 0);
        Check.due("new: between(0, 1000)", a.between(0, 1000), 0);
        Check.due("new: having(0)", a.having(0), 0);
        Check.due("new: having(1000)", a.having(1000), 0);
        Check.due("new: fitting(0, 1000)", a.fitting(0, 1000), 0);
        Check.due("new: fittingGroups()", a.fittingGroups(), 0);
        Check.due("new: next(-1)", a.next(-1), NONE);
        Check.due("new: time(0)", a.time(0), BAD);
        Check.due("new: blank()", a.blank(), 0);
        Check.due("new: write(0)", a.write(0), NONE);
        Check.due("new: expire(1001)", a.expire(1001), 0);
        Check.due("new: item(0)", a.item(0), 1);
        Check.due("new: part(0)", a.part(0), 1);
    }

    private static void promise1ObjectsAreApart() {
        LineArchive a = new LineArchive();
        LineArchive b = new LineArchive();
        Check.write(a, 5, 1, 2);
        a.item(3);
        a.part(2000);
        Check.due("the other object: lines()", b.lines(), 0);
        Check.due("the other object: item(4)", b.item(4), 1);
        Check.due("the other object: blank()", b.blank(), 0);
        Check.due("the other object: write(0)", b.write(0), 0);
        Check.lineIs("after the other object's write", a, 0, 5, 1, 2);
    }

    private static void promise2Item() {
        LineArchive a = new LineArchive();
        Check.due("write with every edge of an item", Check.write(a, 0, 0, 23, 1000, 1999, 12, 1500), 0);
        Check.lineIs("edges of an item", a, 0, 0, 0, 23, 1000, 1999, 12, 1500);
    }

    private static void promise2WrongItems() {
        LineArchive a = new LineArchive();
        int[] wrong = {-1, 24, 500, 999, 2000, 2001, 2002, 3000, 3999, Integer.MIN_VALUE, Integer.MAX_VALUE};
        a.item(7);
        for (int item : wrong) {
            Check.due("item(" + item + ")", a.item(item), BAD);
        }
        Check.due("item(8) after wrong ones", a.item(8), 2);
        a.write(0);
        Check.lineIs("after wrong items", a, 0, 0, 7, 8);
    }

    private static void promise2FullDraft() {
        LineArchive a = new LineArchive();
        for (int i = 0; i < 8; i++) {
            Check.due("item " + i, a.item(1000 + i), i + 1);
        }
        Check.due("a ninth item", a.item(5), FULL);
        Check.due("a wrong ninth item", a.item(24), BAD);
        Check.due("a ninth item again", a.item(1999), FULL);
        Check.due("write of a full draft", a.write(9), 0);
        Check.lineIs("full draft", a, 0, 9, 1000, 1001, 1002, 1003, 1004, 1005, 1006, 1007);
        Check.due("item after write", a.item(5), 1);
    }

    private static void promise3Write() {
        LineArchive a = new LineArchive();
        Check.due("first write", Check.write(a, 3, 1, 1002), 0);
        Check.due("write of the emptied draft", a.write(3), NONE);
        Check.due("second write", Check.write(a, 3, 4), 1);
        Check.due("third write", Check.write(a, 10, 5, 6, 7), 2);
        Check.due("lines() after three", a.lines(), 3);
        Check.lineIs("three lines", a, 0, 3, 1, 1002);
        Check.lineIs("three lines", a, 1, 3, 4);
        Check.lineIs("three lines", a, 2, 10, 5, 6, 7);
    }

    private static void promise3Times() {
        LineArchive a = new LineArchive();
        a.item(1);
        int[] wrong = {-1, 1001, Integer.MIN_VALUE, Integer.MAX_VALUE};
        for (int time : wrong) {
            Check.due("write(" + time + ")", a.write(time), BAD);
        }
        Check.due("write(0)", a.write(0), 0);
        a.item(2);
        Check.due("write(500)", a.write(500), 1);
        a.item(3);
        Check.due("write(499) after 500", a.write(499), BAD);
        Check.due("item(4) after a refused write", a.item(4), 2);
        Check.due("write(500) after 500", a.write(500), 2);
        a.item(5);
        Check.due("write(1000)", a.write(1000), 3);
        a.item(6);
        Check.due("write(1001)", a.write(1001), BAD);
        Check.due("write(1000) again", a.write(1000), 4);
        Check.lineIs("after refused writes", a, 2, 500, 3, 4);
        Check.lineIs("after refused writes", a, 4, 1000, 6);
    }

    private static void promise3FullArchive() {
        LineArchive a = new LineArchive();
        for (int line = 0; line < 60; line++) {
            Check.due("write of line " + line, Check.write(a, line, 1000 + line), line);
        }
        Check.due("write with 60 lines, empty draft", a.write(59), NONE);
        a.item(3);
        Check.due("write with 60 lines", a.write(59), FULL);
        Check.due("write with 60 lines, time too low", a.write(58), BAD);
        Check.due("lines() with 60", a.lines(), 60);
        Check.lineIs("full archive", a, 59, 59, 1059);
        Check.due("the draft is kept by a refused write", a.item(4), 2);
        Check.due("expire(1)", a.expire(1), 1);
        Check.due("write after a line is dropped", a.write(59), 59);
        Check.lineIs("archive full again", a, 59, 59, 3, 4);
        Check.lineIs("archive full again", a, 0, 1, 1001);
    }

    private static void promise3OrderOfTests() {
        LineArchive a = new LineArchive();
        Check.due("write(-1) with an empty draft", a.write(-1), BAD);
        Check.due("write(1001) with an empty draft", a.write(1001), BAD);
        Check.write(a, 7, 1);
        Check.due("write(6) with an empty draft", a.write(6), BAD);
        Check.due("write(7) with an empty draft", a.write(7), NONE);
    }

    private static void promise4Recall() {
        LineArchive a = new LineArchive();
        Check.write(a, 1, 5, 1006, 7);
        Check.write(a, 2, 9);
        a.item(1);
        a.item(2);
        Check.due("recall(0)", a.recall(0), 3);
        Check.due("item(8) after recall", a.item(8), 4);
        Check.due("write of what was recalled", a.write(2), 2);
        Check.lineIs("after recall", a, 2, 2, 5, 1006, 7, 8);
        Check.lineIs("the recalled line stays", a, 0, 1, 5, 1006, 7);
        for (int i = 0; i < 5; i++) {
            a.item(i);
        }
        Check.due("recall(1), shorter than the draft", a.recall(1), 1);
        Check.due("write of the shorter one", a.write(3), 3);
        Check.lineIs("after the shorter recall", a, 3, 3, 9);
        Check.due("write after that", a.write(3), NONE);
    }

    private static void promise4RecallRefused() {
        LineArchive a = new LineArchive();
        Check.due("recall(0) of no lines", a.recall(0), BAD);
        Check.write(a, 1, 5, 6);
        a.item(3);
        int[] wrong = {-1, 1, 60, Integer.MIN_VALUE, Integer.MAX_VALUE};
        for (int line : wrong) {
            Check.due("recall(" + line + ")", a.recall(line), BAD);
        }
        Check.due("item(4) after refused recalls", a.item(4), 2);
        a.write(1);
        Check.lineIs("after refused recalls", a, 1, 1, 3, 4);
    }

    private static void promise5Expire() {
        LineArchive a = new LineArchive();
        Check.write(a, 2, 1, 2, 3);
        Check.write(a, 4, 4);
        Check.write(a, 4, 5, 1006);
        Check.write(a, 9, 7, 8, 9, 10);
        a.item(11);
        a.part(2000);
        Check.due("expire(2)", a.expire(2), 0);
        Check.due("lines() then", a.lines(), 4);
        Check.due("expire(3)", a.expire(3), 1);
        Check.lineIs("after expire(3)", a, 0, 4, 4);
        Check.lineIs("after expire(3)", a, 1, 4, 5, 1006);
        Check.lineIs("after expire(3)", a, 2, 9, 7, 8, 9, 10);
        Check.due("after expire(3): time(3)", a.time(3), BAD);
        Check.due("expire(5)", a.expire(5), 2);
        Check.lineIs("after expire(5)", a, 0, 9, 7, 8, 9, 10);
        Check.due("lines() after expire(5)", a.lines(), 1);
        Check.due("the draft stays", a.item(12), 2);
        Check.due("the pattern stays", a.part(2000), 2);
        Check.due("write(8) below the last line left", a.write(8), BAD);
        Check.due("write(9)", a.write(9), 1);
        Check.lineIs("after the write", a, 1, 9, 11, 12);
    }

    private static void promise5ExpireEdges() {
        LineArchive a = new LineArchive();
        Check.write(a, 0, 1);
        Check.write(a, 1000, 2);
        Check.due("expire(least int)", a.expire(Integer.MIN_VALUE), 0);
        Check.due("expire(-1)", a.expire(-1), 0);
        Check.due("expire(0)", a.expire(0), 0);
        Check.due("expire(1)", a.expire(1), 1);
        Check.due("expire(1000)", a.expire(1000), 0);
        Check.due("expire(1001)", a.expire(1001), 1);
        Check.due("expire(1001) again", a.expire(1001), 0);
        Check.due("lines() of none left", a.lines(), 0);
        Check.due("write(0) with none left", Check.write(a, 0, 3), 0);
        Check.due("expire(greatest int)", a.expire(Integer.MAX_VALUE), 1);
        Check.due("lines() of none left again", a.lines(), 0);
    }
}

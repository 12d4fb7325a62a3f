/** Promises 10 to 14: questions about groups. */
public final class GroupsTest {
    private static final int BAD = LineArchive.BAD;
    private static final int NONE = LineArchive.NONE;
    private static final int[] NO_LINES = {-1, 8, 59, 60, Integer.MIN_VALUE, Integer.MAX_VALUE};

    public static void main(String[] args) {
        promise10Groups();
        promise10WhatIsAlike();
        promise10LengthsBeforeItems();
        promise11Group();
        promise12Members();
        promise13Largest();
        promise13LargestOfManyGroups();
        promise13LargestAfterExpire();
        promise14Column();
        promise14ColumnOfOneLine();
        promise14ColumnFromALaterLine();
        promise14ColumnRefused();
        promise14ColumnOfAFullArchive();
        Check.finish();
    }

    /** Groups: {0, 3, 6}, {1, 4}, {2}, {5, 7}. */
    private static LineArchive eight() {
        LineArchive a = new LineArchive();
        Check.write(a, 0, 4, 1010, 1500);
        Check.write(a, 0, 5);
        Check.write(a, 1, 4, 1010);
        Check.write(a, 2, 4, 1003, 1999);
        Check.write(a, 3, 5);
        Check.write(a, 4, 1000, 1001);
        Check.write(a, 5, 4, 1010, 1000);
        Check.write(a, 6, 1001, 1001);
        return a;
    }

    private static void promise10Groups() {
        LineArchive a = eight();
        Check.due("groups()", a.groups(), 4);
        a.item(9);
        Check.due("groups() with a draft", a.groups(), 4);
        a.write(6);
        Check.due("groups() with one more", a.groups(), 5);
        a.expire(2);
        Check.due("groups() after expire", a.groups(), 4);
        a.expire(7);
        Check.due("groups() of no lines", a.groups(), 0);
    }

    private static void promise10WhatIsAlike() {
        LineArchive a = new LineArchive();
        Check.write(a, 0, 1, 2, 3);
        Check.write(a, 0, 1, 2);
        Check.write(a, 0, 1, 2, 4);
        Check.write(a, 0, 1, 2, 1003);
        Check.write(a, 0, 1, 2, 3);
        Check.write(a, 0, 3, 2, 1);
        Check.write(a, 0, 1, 2, 1999);
        Check.write(a, 0, 1, 2, 1000);
        Check.write(a, 0, 0, 2, 3);
        Check.write(a, 0, 1, 2, 3, 4);
        int[] firsts = {0, 1, 2, 3, 0, 5, 3, 3, 8, 9};
        for (int line = 0; line < firsts.length; line++) {
            Check.due("alike: group(" + line + ")", a.group(line), firsts[line]);
        }
        Check.due("alike: groups()", a.groups(), 7);
    }

    /** What a dropped, longer line left behind must not make shorter ones differ. */
    private static void promise10LengthsBeforeItems() {
        LineArchive a = new LineArchive();
        Check.write(a, 0, 1, 2, 3);
        Check.write(a, 0, 1, 2, 4);
        a.expire(1);
        Check.write(a, 1, 1, 2);
        Check.write(a, 1, 1, 2);
        Check.due("after longer lines: groups()", a.groups(), 1);
        Check.due("after longer lines: group(1)", a.group(1), 0);
    }

    private static void promise11Group() {
        LineArchive a = eight();
        int[] firsts = {0, 1, 2, 0, 1, 5, 0, 5};
        for (int line = 0; line < firsts.length; line++) {
            Check.due("group(" + line + ")", a.group(line), firsts[line]);
        }
        for (int line : NO_LINES) {
            Check.due("group(" + line + ")", a.group(line), BAD);
        }
        a.expire(1);
        int[] firstsThen = {0, 1, 2, 3, 1, 3};
        for (int line = 0; line < firstsThen.length; line++) {
            Check.due("after expire: group(" + line + ")", a.group(line), firstsThen[line]);
        }
        Check.due("after expire: group(6)", a.group(6), BAD);
    }

    private static void promise12Members() {
        LineArchive a = eight();
        int[] sizes = {3, 2, 1, 3, 2, 2, 3, 2};
        for (int line = 0; line < sizes.length; line++) {
            Check.due("members(" + line + ")", a.members(line), sizes[line]);
        }
        for (int line : NO_LINES) {
            Check.due("members(" + line + ")", a.members(line), BAD);
        }
        a.expire(1);
        Check.due("after expire: members(1)", a.members(1), 2);
        Check.due("after expire: members(2)", a.members(2), 1);
    }

    private static void promise13Largest() {
        LineArchive a = eight();
        Check.due("largest(0)", a.largest(0), 0);
        Check.due("largest(1)", a.largest(1), 1);
        Check.due("largest(2)", a.largest(2), 5);
        Check.due("largest(3)", a.largest(3), 2);
        int[] none = {4, 5, 60, -1, Integer.MIN_VALUE, Integer.MAX_VALUE};
        for (int k : none) {
            Check.due("largest(" + k + ")", a.largest(k), NONE);
        }
        Check.write(a, 6, 1000, 1999);
        Check.write(a, 6, 1000, 1999);
        Check.due("two more: largest(0)", a.largest(0), 5);
        Check.due("two more: largest(1)", a.largest(1), 0);
        Check.due("two more: largest(2)", a.largest(2), 1);
        Check.due("two more: largest(3)", a.largest(3), 2);
        Check.due("asked again: largest(0)", a.largest(0), 5);
    }

    private static void promise13LargestOfManyGroups() {
        LineArchive a = new LineArchive();
        for (int line = 0; line < 60; line++) {
            Check.write(a, 0, line / 20, line % 20);
        }
        for (int k = 0; k < 60; k++) {
            Check.due("60 groups: largest(" + k + ")", a.largest(k), k);
        }
        Check.due("60 groups: largest(60)", a.largest(60), NONE);
        Check.due("60 groups: groups()", a.groups(), 60);
    }

    private static void promise13LargestAfterExpire() {
        LineArchive a = eight();
        a.largest(0);
        a.expire(1);
        Check.due("after expire: largest(0)", a.largest(0), 1);
        Check.due("after expire: largest(1)", a.largest(1), 3);
        Check.due("after expire: largest(2)", a.largest(2), 0);
        Check.due("after expire: largest(3)", a.largest(3), 2);
        Check.due("after expire: largest(4)", a.largest(4), NONE);
        a.expire(7);
        Check.due("no lines: largest(0)", a.largest(0), NONE);
        Check.due("no lines: largest(-1)", a.largest(-1), NONE);
    }

    private static void columnIs(LineArchive a, int line, int i, int least, int greatest, int sum, int different) {
        int[] want = {least, greatest, sum, different};
        for (int what = 0; what < 4; what++) {
            Check.due("column(" + line + ", " + i + ", " + what + ")", a.column(line, i, what), want[what]);
        }
    }

    private static void promise14Column() {
        LineArchive a = eight();
        int[] group = {0, 3, 6};
        for (int line : group) {
            columnIs(a, line, 1, 3, 10, 23, 2);
            columnIs(a, line, 2, 0, 999, 1499, 3);
        }
        columnIs(a, 2, 1, 10, 10, 10, 1);
        columnIs(a, 5, 0, 0, 1, 1, 2);
        columnIs(a, 7, 1, 1, 1, 2, 1);
        a.expire(1);
        columnIs(a, 4, 1, 3, 10, 13, 2);
        columnIs(a, 4, 2, 0, 999, 999, 2);
    }

    private static void promise14ColumnOfOneLine() {
        LineArchive a = new LineArchive();
        Check.write(a, 0, 1000, 1, 2, 3, 4, 5, 6, 1999);
        columnIs(a, 0, 0, 0, 0, 0, 1);
        columnIs(a, 0, 7, 999, 999, 999, 1);
    }

    private static void promise14ColumnFromALaterLine() {
        LineArchive a = new LineArchive();
        Check.write(a, 0, 1002, 1900);
        Check.write(a, 0, 1005, 1700);
        Check.write(a, 0, 1003, 1800);
        for (int line = 0; line < 3; line++) {
            columnIs(a, line, 0, 2, 5, 10, 3);
            columnIs(a, line, 1, 700, 900, 2400, 3);
        }
    }

    private static void promise14ColumnRefused() {
        LineArchive a = eight();
        int[] noWhats = {-1, 4, Integer.MIN_VALUE, Integer.MAX_VALUE};
        for (int what : noWhats) {
            Check.due("column(0, 1, " + what + ")", a.column(0, 1, what), BAD);
            Check.due("column(0, 0, " + what + ") of a word", a.column(0, 0, what), BAD);
            Check.due("column(0, 9, " + what + ") of no place", a.column(0, 9, what), BAD);
        }
        for (int line : NO_LINES) {
            Check.due("column(" + line + ", 1, 0)", a.column(line, 1, 0), BAD);
            Check.due("column(" + line + ", -1, 0)", a.column(line, -1, 0), BAD);
        }
        int[] noPlaces = {-1, 3, 8, Integer.MIN_VALUE, Integer.MAX_VALUE};
        for (int what = 0; what < 4; what++) {
            Check.due("column(0, 0, " + what + ") of a word", a.column(0, 0, what), NONE);
            for (int i : noPlaces) {
                Check.due("column(0, " + i + ", " + what + ")", a.column(0, i, what), NONE);
            }
            Check.due("column(1, 1, " + what + ")", a.column(1, 1, what), NONE);
        }
    }

    private static void promise14ColumnOfAFullArchive() {
        LineArchive a = new LineArchive();
        for (int line = 0; line < 60; line++) {
            Check.write(a, 0, 1999, 1000 + line % 7);
        }
        columnIs(a, 59, 0, 999, 999, 59940, 1);
        columnIs(a, 30, 1, 0, 6, 8 * 21 + 0 + 1 + 2 + 3, 7);
    }
}

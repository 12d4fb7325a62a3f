import java.util.Arrays;

/** The sentences of promises 10 to 14 that name an edge, each with a test of its own. */
public final class GroupsEdgesTest {
    private static final int BAD = LineArchive.BAD;
    private static final int NONE = LineArchive.NONE;
    private static final int LEAST = Integer.MIN_VALUE;
    private static final int GREATEST = Integer.MAX_VALUE;
    private static final int[] NOT_GOOD = {LEAST, -1, 3, 4, 59, 60, 61, GREATEST};

    public static void main(String[] args) {
        promise10HowMany();
        promise11First();
        promise11NotGood();
        promise12HowMany();
        promise12NotGood();
        promise13GreaterFirst();
        promise13LesserFirstFirst();
        promise13BelowZero();
        promise13ThereIsNone();
        promise14AllLinesOfTheGroup();
        promise14Least();
        promise14Greatest();
        promise14Sum();
        promise14Different();
        promise14NotGood();
        promise14NoSuchWhat();
        promise14NoPlace();
        promise14AWord();
        Check.finish();
    }

    /** Lines 0 and 2 are a group, line 1 is one. */
    private static LineArchive three() {
        LineArchive a = new LineArchive();
        Check.write(a, 0, 4, 1010);
        Check.write(a, 1, 4);
        Check.write(a, 2, 4, 1020);
        return a;
    }

    private static LineArchive sixtyGroups() {
        LineArchive a = new LineArchive();
        for (int line = 0; line < 60; line++) {
            Check.write(a, line, line / 20, line % 20);
        }
        return a;
    }

    private static void promise10HowMany() {
        Check.sentence("Promise 10", "How many groups there are.");
        LineArchive a = new LineArchive();
        Check.due("groups() of no lines", a.groups(), 0);
        a.item(1);
        Check.due("groups() with a draft alone", a.groups(), 0);
        a.write(0);
        Check.due("groups() of one line", a.groups(), 1);
        Check.due("groups() of 60 lines alike", Check.sixtyLines().groups(), 1);
        LineArchive sixty = sixtyGroups();
        Check.due("groups() of 60 lines, none alike", sixty.groups(), 60);
        sixty.expire(59);
        Check.due("groups() of one left", sixty.groups(), 1);
        sixty.expire(60);
        Check.due("groups() of none left", sixty.groups(), 0);
    }

    private static void promise11First() {
        Check.sentence("Promise 11", "The first of the group of a line.");
        LineArchive a = three();
        Check.due("group(0), the first itself", a.group(0), 0);
        Check.due("group(1), alone", a.group(1), 1);
        Check.due("group(2)", a.group(2), 0);
        a.expire(1);
        Check.due("group(0) after expire", a.group(0), 0);
        Check.due("group(1), its first dropped", a.group(1), 1);
        Check.due("group(59) of 60 alike", Check.sixtyLines().group(59), 0);
        Check.due("group(59) of 60, none alike", sixtyGroups().group(59), 59);
    }

    private static void promise11NotGood() {
        Check.sentence("Promise 11", "line is not good: BAD");
        for (int line : NOT_GOOD) {
            Check.due("group(" + line + ")", three().group(line), BAD);
        }
        Check.due("group(0) of no lines", new LineArchive().group(0), BAD);
        Check.due("group(60) of 60", Check.sixtyLines().group(60), BAD);
    }

    private static void promise12HowMany() {
        Check.sentence("Promise 12", "How many lines the group of a line has.");
        LineArchive a = three();
        Check.due("members(0)", a.members(0), 2);
        Check.due("members(1), alone", a.members(1), 1);
        Check.due("members(2)", a.members(2), 2);
        a.expire(1);
        Check.due("members(1), another dropped", a.members(1), 1);
        LineArchive sixty = Check.sixtyLines();
        Check.due("members(0) of 60 alike", sixty.members(0), 60);
        Check.due("members(59) of 60 alike", sixty.members(59), 60);
        Check.due("members(59) of 60, none alike", sixtyGroups().members(59), 1);
    }

    private static void promise12NotGood() {
        Check.sentence("Promise 12", "line is not good: BAD");
        for (int line : NOT_GOOD) {
            Check.due("members(" + line + ")", three().members(line), BAD);
        }
        Check.due("members(0) of no lines", new LineArchive().members(0), BAD);
        Check.due("members(60) of 60", Check.sixtyLines().members(60), BAD);
    }

    /** Writes lines of one word each. */
    private static LineArchive words(int... words) {
        LineArchive a = new LineArchive();
        for (int word : words) {
            Check.write(a, 0, word);
        }
        return a;
    }

    private static void promise13GreaterFirst() {
        Check.sentence("Promise 13", "ordered by their number of lines, the greater first");
        LineArchive a = words(1, 2, 2, 3, 3, 3, 4, 4, 4, 4);
        int[] firsts = {6, 3, 1, 0};
        for (int k = 0; k < firsts.length; k++) {
            Check.due("growing: largest(" + k + ")", a.largest(k), firsts[k]);
        }
        LineArchive b = words(1, 1, 1, 2, 2, 3);
        int[] firstsThen = {0, 3, 5};
        for (int k = 0; k < firstsThen.length; k++) {
            Check.due("falling: largest(" + k + ")", b.largest(k), firstsThen[k]);
        }
        Check.due("one group of 60: largest(0)", Check.sixtyLines().largest(0), 0);
    }

    private static void promise13LesserFirstFirst() {
        Check.sentence("Promise 13", "with the same number the lesser first first");
        LineArchive a = words(5, 4, 3, 3, 4, 5, 9);
        int[] firsts = {0, 1, 2, 6};
        for (int k = 0; k < firsts.length; k++) {
            Check.due("pairs: largest(" + k + ")", a.largest(k), firsts[k]);
        }
        LineArchive sixty = sixtyGroups();
        for (int k = 0; k < 60; k++) {
            Check.due("60 groups of one: largest(" + k + ")", sixty.largest(k), k);
        }
    }

    private static void promise13BelowZero() {
        Check.sentence("Promise 13", "k is below 0");
        int[] wrong = {LEAST, LEAST + 1, -60, -2, -1};
        for (int k : wrong) {
            Check.due("largest(" + k + ")", three().largest(k), NONE);
            Check.due("largest(" + k + ") of no lines", new LineArchive().largest(k), NONE);
            Check.due("largest(" + k + ") of 60 groups", sixtyGroups().largest(k), NONE);
        }
    }

    private static void promise13ThereIsNone() {
        Check.sentence("Promise 13", "or there is none: NONE");
        Check.due("largest(0) of no lines", new LineArchive().largest(0), NONE);
        LineArchive a = three();
        Check.due("largest(1), the last", a.largest(1), 1);
        int[] wrong = {2, 3, 59, 60, GREATEST};
        for (int k : wrong) {
            Check.due("largest(" + k + ")", a.largest(k), NONE);
        }
        Check.due("largest(1) of 60 alike", Check.sixtyLines().largest(1), NONE);
        LineArchive sixty = sixtyGroups();
        Check.due("largest(59) of 60 groups", sixty.largest(59), 59);
        Check.due("largest(60) of 60 groups", sixty.largest(60), NONE);
        sixty.expire(59);
        Check.due("largest(1) of one left", sixty.largest(1), NONE);
        sixty.expire(60);
        Check.due("largest(0) of none left", sixty.largest(0), NONE);
    }

    /** Writes lines of one number each. */
    private static LineArchive numbers(int... numbers) {
        LineArchive a = new LineArchive();
        for (int number : numbers) {
            Check.write(a, 0, 1000 + number);
        }
        return a;
    }

    private static void columnIs(LineArchive a, int line, int i, int... want) {
        for (int what = 0; what < want.length; what++) {
            Check.due("column(" + line + ", " + i + ", " + what + ")", a.column(line, i, what), want[what]);
        }
    }

    private static void promise14AllLinesOfTheGroup() {
        Check.sentence("Promise 14", "Of the numbers at place i of all lines of the group of a line");
        LineArchive a = new LineArchive();
        Check.write(a, 0, 7, 1002, 1900);
        Check.write(a, 0, 8, 1000, 1999);
        Check.write(a, 0, 7, 1005, 1800);
        Check.write(a, 0, 7, 1001);
        Check.write(a, 0, 7, 1003, 1700);
        int[] group = {0, 2, 4};
        for (int line : group) {
            columnIs(a, line, 1, 2, 5, 10, 3);
            columnIs(a, line, 2, 700, 900, 2400, 3);
        }
        columnIs(a, 1, 1, 0, 0, 0, 1);
        columnIs(a, 3, 1, 1, 1, 1, 1);
        LineArchive eight = new LineArchive();
        Check.write(eight, 0, 1000, 1001, 1002, 1003, 1004, 1005, 1006, 1007);
        Check.write(eight, 0, 1010, 1011, 1012, 1013, 1014, 1015, 1016, 1017);
        for (int i = 0; i < 8; i++) {
            columnIs(eight, i % 2, i, i, 10 + i, 10 + 2 * i, 2);
        }
    }

    private static void promise14Least() {
        Check.sentence("Promise 14", "what 0 the least");
        Check.due("of 0", numbers(0).column(0, 0, 0), 0);
        Check.due("of 999", numbers(999).column(0, 0, 0), 999);
        Check.due("the first", numbers(0, 1, 999).column(2, 0, 0), 0);
        Check.due("the last", numbers(999, 998, 997).column(0, 0, 0), 997);
        Check.due("the middle one", numbers(5, 4, 6).column(0, 0, 0), 4);
        Check.due("of 60", Check.sixtyLines().column(59, 0, 0), 0);
    }

    private static void promise14Greatest() {
        Check.sentence("Promise 14", "1 the greatest");
        Check.due("of 0", numbers(0).column(0, 0, 1), 0);
        Check.due("of 999", numbers(999).column(0, 0, 1), 999);
        Check.due("the first", numbers(999, 1, 0).column(2, 0, 1), 999);
        Check.due("the last", numbers(0, 1, 2).column(0, 0, 1), 2);
        Check.due("the middle one", numbers(5, 6, 4).column(0, 0, 1), 6);
        Check.due("of 60", Check.sixtyLines().column(0, 0, 1), 59);
    }

    private static void promise14Sum() {
        Check.sentence("Promise 14", "2 their sum");
        Check.due("of 0", numbers(0).column(0, 0, 2), 0);
        Check.due("of 0, 0, 0", numbers(0, 0, 0).column(1, 0, 2), 0);
        Check.due("of the same ones", numbers(7, 7, 7).column(2, 0, 2), 21);
        Check.due("of 60", Check.sixtyLines().column(30, 0, 2), 59 * 60 / 2);
        int[] greatest = new int[60];
        Arrays.fill(greatest, 999);
        Check.due("of 999, 60 times", numbers(greatest).column(59, 0, 2), 59940);
    }

    private static void promise14Different() {
        Check.sentence("Promise 14", "3 how many different ones there are");
        Check.due("of 0", numbers(0).column(0, 0, 3), 1);
        Check.due("of 0, 0, 0", numbers(0, 0, 0).column(1, 0, 3), 1);
        Check.due("of 0, 999, 0", numbers(0, 999, 0).column(2, 0, 3), 2);
        Check.due("of 1, 2, 2, 1, 3", numbers(1, 2, 2, 1, 3).column(0, 0, 3), 3);
        Check.due("of 60 different ones", Check.sixtyLines().column(30, 0, 3), 60);
    }

    private static void promise14NotGood() {
        Check.sentence("Promise 14", "line is not good");
        for (int line : NOT_GOOD) {
            for (int what = 0; what < 4; what++) {
                Check.due("column(" + line + ", 1, " + what + ")", three().column(line, 1, what), BAD);
                Check.due("column(" + line + ", 8, " + what + ")", three().column(line, 8, what), BAD);
            }
        }
        Check.due("column(0, 0, 0) of no lines", new LineArchive().column(0, 0, 0), BAD);
        Check.due("column(60, 0, 0) of 60", Check.sixtyLines().column(60, 0, 0), BAD);
    }

    private static void promise14NoSuchWhat() {
        Check.sentence("Promise 14", "or what is not 0 .. 3: BAD");
        int[] wrong = {LEAST, -1, 4, 5, GREATEST};
        for (int what : wrong) {
            Check.due("column(0, 1, " + what + ")", three().column(0, 1, what), BAD);
            Check.due("column(0, 0, " + what + ") of a word", three().column(0, 0, what), BAD);
            Check.due("column(0, 2, " + what + ") of no place", three().column(0, 2, what), BAD);
        }
    }

    private static void promise14NoPlace() {
        Check.sentence("Promise 14", "there is no place i in it");
        LineArchive a = new LineArchive();
        Check.write(a, 0, 1001);
        Check.write(a, 0, 1001, 1002, 1003, 1004, 1005, 1006, 1007, 1008);
        int[] wrong = {LEAST, -1, 8, 9, GREATEST};
        for (int what = 0; what < 4; what++) {
            for (int i : wrong) {
                Check.due("column(0, " + i + ", " + what + ")", a.column(0, i, what), NONE);
                Check.due("column(1, " + i + ", " + what + ")", a.column(1, i, what), NONE);
            }
            Check.due("column(0, 1, " + what + ") of one item", a.column(0, 1, what), NONE);
        }
        a.expire(1);
        Check.write(a, 1, 1009);
        Check.write(a, 1, 1009);
        Check.due("column(1, 1, 0) where a longer line was", a.column(1, 1, 0), NONE);
    }

    private static void promise14AWord() {
        Check.sentence("Promise 14", "or a word: NONE");
        LineArchive a = new LineArchive();
        Check.write(a, 0, 0, 1000, 23, 1, 2, 3, 4, 22);
        int[] words = {0, 2, 3, 7};
        for (int what = 0; what < 4; what++) {
            for (int i : words) {
                Check.due("column(0, " + i + ", " + what + ")", a.column(0, i, what), NONE);
            }
        }
        columnIs(a, 0, 1, 0, 0, 0, 1);
    }
}

/** The sentences of promises 16 to 20 that name an edge, each with a test of its own. */
public final class PatternEdgesTest {
    private static final int BAD = LineArchive.BAD;
    private static final int NONE = LineArchive.NONE;
    private static final int FULL = LineArchive.FULL;
    private static final int LEAST = Integer.MIN_VALUE;
    private static final int GREATEST = Integer.MAX_VALUE;
    private static final int ROW = 2002;

    public static void main(String[] args) {
        promise16Appends();
        promise16NotAPart();
        promise16HasEight();
        promise16HowManyThen();
        promise17BecomesEmpty();
        promise17HowManyItHad();
        promise18BothIncluded();
        promise18AnyInts();
        promise18HowManyFit();
        promise19LeastLineGreater();
        promise19AnyInt();
        promise19NoneIfThereIsNone();
        promise20ALineFits();
        promise20HowManyGroups();
        Check.finish();
    }

    private static void promise16Appends() {
        Check.sentence("Promise 16", "Appends a part to the pattern.");
        LineArchive a = new LineArchive();
        Check.write(a, 0, 0, 23, 1000, 1999, 5, 1001);
        Check.pattern(a, 0, 23, 1000, 1999, 2000, 3000);
        Check.due("the edges of parts, in their order: fitting", a.fitting(0, 0), 1);
        Check.pattern(a, 3000, 2000, 1999, 1000, 23, 0);
        Check.due("the other way round: fitting", a.fitting(0, 0), 0);
        Check.pattern(a, 2000, 23);
        Check.due("two parts: fitting", a.fitting(0, 0), 0);
        a.part(ROW);
        Check.due("a third part appended: fitting", a.fitting(0, 0), 1);
    }

    private static void promise16NotAPart() {
        Check.sentence("Promise 16", "part is not one: BAD");
        int[] wrong = {LEAST, -1, 24, 999, 2003, 2999, 4000, 4999, GREATEST};
        for (int had = 0; had <= 8; had++) {
            LineArchive a = new LineArchive();
            for (int p = 0; p < had; p++) {
                a.part(ROW);
            }
            for (int part : wrong) {
                Check.due("part(" + part + ") with " + had, a.part(part), BAD);
            }
            Check.due("blank() of " + had, a.blank(), had);
        }
    }

    private static void promise16HasEight() {
        Check.sentence("Promise 16", "it has eight: FULL");
        LineArchive a = new LineArchive();
        Check.write(a, 0, 1, 2, 3, 4, 5, 6, 7, 8);
        Check.pattern(a, 1, 2, 3, 4, 5, 6, 7, 8);
        int[] parts = {0, 23, 1000, 1999, 2000, 2001, 2002, 3000, 3999};
        for (int part : parts) {
            Check.due("part(" + part + ") with eight", a.part(part), FULL);
        }
        Check.due("the eight: fitting", a.fitting(0, 0), 1);
        Check.due("the eight: blank()", a.blank(), 8);
    }

    private static void promise16HowManyThen() {
        Check.sentence("Promise 16", "Else answers how many it has then.");
        LineArchive a = new LineArchive();
        int[] parts = {0, 23, 1000, 1999, 2000, 2001, 2002, 3999};
        for (int round = 0; round < 2; round++) {
            for (int p = 0; p < 8; p++) {
                Check.due("part(" + parts[p] + ") in round " + round, a.part(parts[p]), p + 1);
            }
            a.blank();
        }
    }

    private static void promise17BecomesEmpty() {
        Check.sentence("Promise 17", "The pattern becomes empty");
        for (int had = 0; had <= 8; had++) {
            LineArchive a = new LineArchive();
            Check.write(a, 0, 5);
            a.item(6);
            for (int p = 0; p < had; p++) {
                a.part(ROW);
            }
            a.blank();
            Check.due("after " + had + ": fitting", a.fitting(0, 0), 0);
            Check.due("after " + had + ": blank()", a.blank(), 0);
            Check.due("after " + had + ": part(6)", a.part(6), 1);
            Check.due("after " + had + ", the part 6 alone: fitting", a.fitting(0, 0), 0);
            Check.due("the draft stays: write(0)", a.write(0), 1);
            Check.due("the lines stay: lines()", a.lines(), 2);
        }
    }

    private static void promise17HowManyItHad() {
        Check.sentence("Promise 17", "answers how many parts it had");
        for (int had = 0; had <= 8; had++) {
            LineArchive a = new LineArchive();
            for (int p = 0; p < had; p++) {
                a.part(p);
            }
            Check.due("blank() of " + had, a.blank(), had);
        }
    }

    /** Words 5 at times 0, 4 and 1000, and a word 6 at 4; the pattern is the word 5. */
    private static LineArchive four() {
        LineArchive a = new LineArchive();
        Check.write(a, 0, 5);
        Check.write(a, 4, 6);
        Check.write(a, 4, 5);
        Check.write(a, 1000, 5);
        Check.pattern(a, 5);
        return a;
    }

    private static void promise18BothIncluded() {
        Check.sentence("Promise 18", "both included");
        LineArchive a = four();
        Check.due("fitting(0, 1000)", a.fitting(0, 1000), 3);
        Check.due("fitting(0, 0)", a.fitting(0, 0), 1);
        Check.due("fitting(1000, 1000)", a.fitting(1000, 1000), 1);
        Check.due("fitting(4, 4)", a.fitting(4, 4), 1);
        Check.due("fitting(0, 4)", a.fitting(0, 4), 2);
        Check.due("fitting(0, 3)", a.fitting(0, 3), 1);
        Check.due("fitting(5, 1000)", a.fitting(5, 1000), 1);
        Check.due("fitting(5, 999)", a.fitting(5, 999), 0);
        Check.due("fitting(1, 3)", a.fitting(1, 3), 0);
        Check.due("fitting(4, 0)", a.fitting(4, 0), 0);
    }

    private static void promise18AnyInts() {
        Check.sentence("Promise 18", "(any ints, both included)");
        LineArchive a = four();
        Check.due("fitting(least, greatest)", a.fitting(LEAST, GREATEST), 3);
        Check.due("fitting(greatest, least)", a.fitting(GREATEST, LEAST), 0);
        Check.due("fitting(least, least)", a.fitting(LEAST, LEAST), 0);
        Check.due("fitting(greatest, greatest)", a.fitting(GREATEST, GREATEST), 0);
        Check.due("fitting(least, -1)", a.fitting(LEAST, -1), 0);
        Check.due("fitting(least, 0)", a.fitting(LEAST, 0), 1);
        Check.due("fitting(-1, 0)", a.fitting(-1, 0), 1);
        Check.due("fitting(1000, 1001)", a.fitting(1000, 1001), 1);
        Check.due("fitting(1001, greatest)", a.fitting(1001, GREATEST), 0);
        Check.due("fitting(4, greatest)", a.fitting(4, GREATEST), 2);
    }

    private static void promise18HowManyFit() {
        Check.sentence("Promise 18", "How many lines with times from .. to (any ints, both included) fit the pattern.");
        LineArchive a = Check.sixtyLines();
        a.part(2001);
        Check.due("all of 60", a.fitting(0, 1000), 60);
        a.blank();
        a.part(1059);
        Check.due("the last of 60", a.fitting(0, 1000), 1);
        a.item(1059);
        Check.due("not the draft", a.fitting(0, 1000), 1);
        a.expire(60);
        Check.due("of no lines left", a.fitting(0, 1000), 0);
        LineArchive b = new LineArchive();
        b.part(ROW);
        Check.due("of no lines", b.fitting(LEAST, GREATEST), 0);
    }

    private static void promise19LeastLineGreater() {
        Check.sentence("Promise 19", "The least line greater than after");
        LineArchive a = four();
        Check.due("next(-1)", a.next(-1), 0);
        Check.due("next(0), not line 0 itself, nor line 1 that doesn't fit", a.next(0), 2);
        Check.due("next(1)", a.next(1), 2);
        Check.due("next(2)", a.next(2), 3);
        LineArchive sixty = Check.sixtyLines();
        sixty.part(2001);
        for (int after = -1; after < 59; after++) {
            Check.due("next(" + after + ") of 60", sixty.next(after), after + 1);
        }
        Check.due("next(59) of 60", sixty.next(59), NONE);
    }

    private static void promise19AnyInt() {
        Check.sentence("Promise 19", "greater than after (any int)");
        LineArchive a = four();
        int[] low = {LEAST, LEAST + 1, -60, -2, -1};
        for (int after : low) {
            Check.due("next(" + after + ")", a.next(after), 0);
        }
        int[] high = {3, 4, 59, 60, GREATEST - 1, GREATEST};
        for (int after : high) {
            Check.due("next(" + after + ")", a.next(after), NONE);
        }
    }

    private static void promise19NoneIfThereIsNone() {
        Check.sentence("Promise 19", "NONE if there is none");
        LineArchive a = four();
        Check.due("next(3), after the last", a.next(3), NONE);
        Check.pattern(a, 6);
        Check.due("next(1), after the last that fits", a.next(1), NONE);
        Check.pattern(a, 7);
        Check.due("next(-1), none fits", a.next(-1), NONE);
        a.blank();
        Check.due("next(-1), the pattern is empty", a.next(-1), NONE);
        a.part(ROW);
        a.expire(1001);
        Check.due("next(-1), no lines left", a.next(-1), NONE);
        LineArchive b = new LineArchive();
        b.part(ROW);
        Check.due("next(-1), no lines", b.next(-1), NONE);
    }

    private static void promise20ALineFits() {
        Check.sentence("Promise 20", "of which a line fits the pattern");
        LineArchive a = new LineArchive();
        Check.write(a, 0, 1, 1010);
        Check.write(a, 1, 1, 1020);
        Check.write(a, 2, 1, 1030);
        int[] numbers = {1010, 1020, 1030};
        for (int number : numbers) {
            Check.pattern(a, 1, number);
            Check.due("fits " + number + " alone", a.fittingGroups(), 1);
        }
        Check.pattern(a, 1, 1040);
        Check.due("none fits", a.fittingGroups(), 0);
        Check.pattern(a, 1, 1010);
        a.expire(1);
        Check.due("the one that fits is dropped", a.fittingGroups(), 0);
    }

    private static void promise20HowManyGroups() {
        Check.sentence("Promise 20", "How many groups there are");
        LineArchive none = new LineArchive();
        none.part(ROW);
        Check.due("no lines", none.fittingGroups(), 0);
        LineArchive one = Check.sixtyLines();
        one.part(2001);
        Check.due("one group of 60 that fit", one.fittingGroups(), 1);
        one.blank();
        Check.due("the pattern is empty", one.fittingGroups(), 0);
        LineArchive sixty = new LineArchive();
        for (int line = 0; line < 60; line++) {
            Check.write(sixty, 0, line / 20, line % 20);
        }
        sixty.part(ROW);
        Check.due("60 groups that fit", sixty.fittingGroups(), 60);
        sixty.part(19);
        Check.due("three of 60 groups fit", sixty.fittingGroups(), 3);
    }
}

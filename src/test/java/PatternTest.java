/** Promises 16 to 20: the pattern, and the lines and groups that fit it. */
public final class PatternTest {
    private static final int BAD = LineArchive.BAD;
    private static final int NONE = LineArchive.NONE;
    private static final int FULL = LineArchive.FULL;

    private static final int ANY = 2000;
    private static final int NUMBER = 2001;
    private static final int ROW = 2002;

    public static void main(String[] args) {
        promise16Part();
        promise16WrongParts();
        promise16FullPattern();
        promise17Blank();
        promise18SinglePartsFit();
        promise18AboveFits();
        promise18RowsFit();
        promise18LongestPatterns();
        promise18FullArchiveOfFullLines();
        promise18FittingInTimes();
        promise19Next();
        promise20FittingGroups();
        Check.finish();
    }

    private static void promise16Part() {
        LineArchive a = new LineArchive();
        Check.pattern(a, 0, 23, 1000, 1999, 2000, 2001, 2002, 3000);
        Check.pattern(a, 3999, 3500, 12, 1234);
        Check.due("blank() of those", a.blank(), 4);
    }

    private static void promise16WrongParts() {
        LineArchive a = new LineArchive();
        int[] wrong = {-1, 24, 999, 2003, 2999, 4000, Integer.MIN_VALUE, Integer.MAX_VALUE};
        Check.write(a, 0, 5);
        a.part(5);
        for (int part : wrong) {
            Check.due("part(" + part + ")", a.part(part), BAD);
        }
        Check.due("the pattern is as it was", a.fitting(0, 0), 1);
        Check.due("part(ROW) after wrong ones", a.part(ROW), 2);
    }

    private static void promise16FullPattern() {
        LineArchive a = new LineArchive();
        Check.write(a, 0, 1, 2, 3, 4, 5, 6, 7, 8);
        Check.pattern(a, 1, 2, 3, 4, 5, 6, 7, 8);
        Check.due("a ninth part", a.part(ROW), FULL);
        Check.due("a wrong ninth part", a.part(24), BAD);
        Check.due("the pattern is as it was", a.fitting(0, 0), 1);
        Check.due("blank() of a full pattern", a.blank(), 8);
        Check.due("part after blank", a.part(1), 1);
    }

    private static void promise17Blank() {
        LineArchive a = new LineArchive();
        Check.due("blank() of the empty pattern", a.blank(), 0);
        Check.write(a, 0, 5);
        a.item(6);
        Check.pattern(a, ROW, ROW, ROW);
        Check.due("fitting before blank", a.fitting(0, 0), 1);
        Check.due("blank() of three", a.blank(), 3);
        Check.due("blank() again", a.blank(), 0);
        Check.due("fitting of the empty pattern", a.fitting(0, 1000), 0);
        Check.due("next of the empty pattern", a.next(-1), NONE);
        Check.due("fittingGroups of the empty pattern", a.fittingGroups(), 0);
        Check.due("blank() leaves the lines", a.lines(), 1);
        Check.due("blank() leaves the draft", a.item(7), 2);
    }

    private static void fits(int[] line, boolean does, int... parts) {
        LineArchive a = new LineArchive();
        Check.write(a, 10, line);
        Check.pattern(a, parts);
        StringBuilder named = new StringBuilder("line");
        for (int item : line) {
            named.append(' ').append(item);
        }
        named.append(", pattern");
        for (int part : parts) {
            named.append(' ').append(part);
        }
        Check.due(named + ": fitting(10, 10)", a.fitting(10, 10), does ? 1 : 0);
        Check.due(named + ": next(-1)", a.next(-1), does ? 0 : NONE);
        Check.due(named + ": fittingGroups()", a.fittingGroups(), does ? 1 : 0);
    }

    private static int[] row(int... items) {
        return items;
    }

    private static void promise18SinglePartsFit() {
        fits(row(5), true, 5);
        fits(row(5), false, 6);
        fits(row(5), false, 1005);
        fits(row(1005), true, 1005);
        fits(row(1005), false, 1006);
        fits(row(1005), false, 5);
        fits(row(0), true, 0);
        fits(row(5), true, ANY);
        fits(row(1005), true, ANY);
        fits(row(5), false, NUMBER);
        fits(row(23), false, NUMBER);
        fits(row(1000), true, NUMBER);
        fits(row(1999), true, NUMBER);
        fits(row(5, 6), true, 5, 6);
        fits(row(5, 6), false, 6, 5);
        fits(row(5, 6), false, 5);
        fits(row(5, 6), false, 6);
        fits(row(5), false, 5, 6);
        fits(row(5), false, ANY, ANY);
        fits(row(5, 1006, 7), true, ANY, NUMBER, 7);
        fits(row(5, 6, 7), false, ANY, NUMBER, 7);
    }

    private static void promise18AboveFits() {
        fits(row(1000), false, 3000);
        fits(row(1001), true, 3000);
        fits(row(1500), false, 3500);
        fits(row(1501), true, 3500);
        fits(row(1499), false, 3500);
        fits(row(1999), true, 3998);
        fits(row(1998), false, 3998);
        fits(row(1999), false, 3999);
        fits(row(23), false, 3000);
        fits(row(0), false, 3000);
        fits(row(1005, 1006), true, 3004, 3005);
        fits(row(1005, 1006), false, 3005, 3004);
    }

    private static void promise18RowsFit() {
        fits(row(5), true, ROW);
        fits(row(5, 1006, 7), true, ROW);
        fits(row(1, 2, 3, 4, 5, 6, 7, 8), true, ROW);
        fits(row(5), true, ROW, 5);
        fits(row(5), true, 5, ROW);
        fits(row(5), true, ROW, ROW, 5, ROW, ROW);
        fits(row(5), false, ROW, 6, ROW);
        fits(row(5, 6, 5, 6, 7), true, ROW, 5, 6, 7);
        fits(row(5, 6, 5, 6, 7), true, 5, ROW, 7);
        fits(row(5, 6, 5, 6, 7), true, ROW, 5, 6, ROW);
        fits(row(5, 6, 5, 6, 7), true, ROW, 5, ROW, 5, ROW);
        fits(row(5, 6, 5, 6, 7), false, ROW, 5, ROW, 5, ROW, 5, ROW);
        fits(row(5, 6, 5, 6, 7), false, ROW, 6);
        fits(row(5, 6, 5, 6, 7), false, 6, ROW);
        fits(row(5, 6, 5), true, 5, ROW, 5);
        fits(row(5), false, 5, ROW, 5);
        fits(row(5, 5), true, 5, ROW, 5);
        fits(row(5, 6), false, ANY, ROW, ANY, ANY);
        fits(row(5, 6), true, ANY, ROW, ANY);
        fits(row(1001, 5, 1002), true, ROW, 3001);
        fits(row(1002, 5, 1001), false, ROW, 3001);
        fits(row(1002, 5, 1001), true, ROW, 3001, ROW, NUMBER);
        fits(row(1001, 1002), true, ROW, NUMBER, ROW, NUMBER, ROW);
        fits(row(1001, 2), false, ROW, NUMBER, ROW, NUMBER, ROW);
    }

    private static void promise18LongestPatterns() {
        int[] eight = row(1, 1, 1, 1, 1, 1, 1, 1);
        fits(eight, true, ANY, ANY, ANY, ANY, ANY, ANY, ANY, ANY);
        fits(eight, false, ANY, ANY, ANY, ANY, ANY, ANY, ANY);
        fits(eight, true, ROW, ROW, ROW, ROW, ROW, ROW, ROW, ROW);
        fits(eight, true, ROW, 1, ROW, 1, ROW, 1, ROW, 1);
        fits(eight, false, ROW, 1, ROW, 1, ROW, 1, ROW, 2);
        fits(eight, true, 1, 1, 1, 1, 1, 1, 1, ROW);
        fits(row(1, 1, 1, 1, 1, 1, 1), true, ROW, 1, 1, 1, 1, 1, 1, 1);
        fits(row(1, 1, 1, 1, 1, 1), false, ROW, 1, 1, 1, 1, 1, 1, 1);
    }

    private static void promise18FullArchiveOfFullLines() {
        LineArchive a = new LineArchive();
        Check.write(a, 0, 1001, 1002, 1003, 1004, 1005, 1006, 1007, 1008);
        for (int line = 1; line < 60; line++) {
            a.recall(0);
            Check.due("write of full line " + line, a.write(line), line);
        }
        int[][] fitting = {
            {ROW}, {ANY, ANY, ANY, ANY, ANY, ANY, ANY, ANY}, {ROW, 3007}, {1001, ROW, NUMBER, 1008}, {ROW, 1008, ROW}
        };
        for (int[] parts : fitting) {
            Check.pattern(a, parts);
            Check.due("full archive: fitting(0, 1000)", a.fitting(0, 1000), 60);
            Check.due("full archive: next(58)", a.next(58), 59);
            Check.due("full archive: next(59)", a.next(59), NONE);
            Check.due("full archive: fittingGroups()", a.fittingGroups(), 1);
        }
        Check.pattern(a, ROW, 1008, ANY);
        Check.due("full archive, none fits: fitting(0, 1000)", a.fitting(0, 1000), 0);
        Check.due("full archive: having(1008)", a.having(1008), 60);
        Check.due("full archive: members(59)", a.members(59), 60);
        Check.due("full archive: column(59, 7, 2)", a.column(59, 7, 2), 480);
        Check.due("full archive: burst(60)", a.burst(60), 60);
        Check.due("full archive: expire(60)", a.expire(60), 60);
    }

    /** Lines at times 0, 4, 4, 9, 1000; the pattern 5 ROW fits all but line 1. */
    private static LineArchive five() {
        LineArchive a = new LineArchive();
        Check.write(a, 0, 5);
        Check.write(a, 4, 6);
        Check.write(a, 4, 5, 1007);
        Check.write(a, 9, 5, 1008);
        Check.write(a, 1000, 5);
        Check.pattern(a, 5, ROW);
        return a;
    }

    private static void promise18FittingInTimes() {
        LineArchive a = five();
        Check.due("fitting(0, 1000)", a.fitting(0, 1000), 4);
        Check.due("fitting(least, greatest)", a.fitting(Integer.MIN_VALUE, Integer.MAX_VALUE), 4);
        Check.due("fitting(greatest, least)", a.fitting(Integer.MAX_VALUE, Integer.MIN_VALUE), 0);
        Check.due("fitting(1, 999)", a.fitting(1, 999), 2);
        Check.due("fitting(4, 4)", a.fitting(4, 4), 1);
        Check.due("fitting(4, 9)", a.fitting(4, 9), 2);
        Check.due("fitting(9, 4)", a.fitting(9, 4), 0);
        Check.due("fitting(5, 8)", a.fitting(5, 8), 0);
        Check.due("fitting(-9, 0)", a.fitting(-9, 0), 1);
        Check.due("fitting(1000, 2000)", a.fitting(1000, 2000), 1);
        a.expire(4);
        Check.due("after expire: fitting(0, 1000)", a.fitting(0, 1000), 3);
        a.item(5);
        Check.due("with a draft: fitting(0, 1000)", a.fitting(0, 1000), 3);
    }

    private static void promise19Next() {
        LineArchive a = five();
        Check.due("next(least)", a.next(Integer.MIN_VALUE), 0);
        Check.due("next(-1)", a.next(-1), 0);
        Check.due("next(0)", a.next(0), 2);
        Check.due("next(1)", a.next(1), 2);
        Check.due("next(2)", a.next(2), 3);
        Check.due("next(3)", a.next(3), 4);
        Check.due("next(4)", a.next(4), NONE);
        Check.due("next(59)", a.next(59), NONE);
        Check.due("next(greatest)", a.next(Integer.MAX_VALUE), NONE);
        Check.pattern(a, 6);
        Check.due("other pattern: next(0)", a.next(0), 1);
        Check.due("other pattern: next(1)", a.next(1), NONE);
        a.expire(1);
        Check.due("after expire: next(-1)", a.next(-1), 0);
    }

    private static void promise20FittingGroups() {
        LineArchive a = five();
        Check.due("fittingGroups() of 5 ROW", a.fittingGroups(), 2);
        Check.pattern(a, ROW);
        Check.due("fittingGroups() of ROW", a.fittingGroups(), 3);
        Check.pattern(a, ANY, 3007);
        Check.due("fittingGroups(), fitted by a later line alone", a.fittingGroups(), 1);
        Check.pattern(a, ANY, 1007);
        Check.due("fittingGroups(), fitted by the first alone", a.fittingGroups(), 1);
        Check.pattern(a, ANY, 3008);
        Check.due("fittingGroups(), fitted by none", a.fittingGroups(), 0);
        Check.pattern(a, 6);
        Check.due("fittingGroups() of 6", a.fittingGroups(), 1);
        a.expire(5);
        Check.due("after expire: fittingGroups() of 6", a.fittingGroups(), 0);
    }
}

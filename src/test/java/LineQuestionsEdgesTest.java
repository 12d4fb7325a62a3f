/** The sentences of promises 6 to 9, 15 and 21 to 23 that name an edge, each with a test of its own. */
public final class LineQuestionsEdgesTest {
    private static final int BAD = LineArchive.BAD;
    private static final int NONE = LineArchive.NONE;
    private static final int LEAST = Integer.MIN_VALUE;
    private static final int GREATEST = Integer.MAX_VALUE;

    public static void main(String[] args) {
        promise6HowMany();
        promise7Time();
        promise7NotGood();
        promise8HowMany();
        promise8NotGood();
        promise9ZeroTheFirst();
        promise9NotGood();
        promise9ThereIsNone();
        promise15Anywhere();
        promise15HowManyLines();
        promise15NotAnItem();
        promise21BothIncluded();
        promise21AnyInts();
        promise22Span();
        promise22Greatest();
        promise22WideSpans();
        promise22WidthBelowOne();
        promise23Sum();
        promise23Wrapping();
        Check.finish();
    }

    /** Lines 0 and 1, of one and of eight items, at times 0 and 1000. */
    private static LineArchive two() {
        LineArchive a = new LineArchive();
        Check.write(a, 0, 3);
        Check.write(a, 1000, 10, 1011, 12, 1013, 14, 1015, 16, 1017);
        return a;
    }

    private static void promise6HowMany() {
        Check.sentence("Promise 6", "How many lines there are.");
        LineArchive a = new LineArchive();
        Check.due("lines() of none", a.lines(), 0);
        for (int line = 0; line < 60; line++) {
            a.item(1);
            Check.due("lines() with a draft", a.lines(), line);
            a.write(line);
            Check.due("lines() after a write", a.lines(), line + 1);
        }
        a.item(1);
        a.write(59);
        Check.due("lines() after a refused write", a.lines(), 60);
        a.expire(60);
        Check.due("lines() of none left", a.lines(), 0);
    }

    private static void promise7Time() {
        Check.sentence("Promise 7", "The time of a line.");
        LineArchive a = two();
        Check.due("time(0)", a.time(0), 0);
        Check.due("time(1)", a.time(1), 1000);
        a.expire(1);
        Check.due("time(0) after expire", a.time(0), 1000);
    }

    private static final int[] NOT_GOOD = {LEAST, -1, 2, 3, 59, 60, 61, GREATEST};

    private static void promise7NotGood() {
        Check.sentence("Promise 7", "line is not good: BAD");
        for (int line : NOT_GOOD) {
            Check.due("time(" + line + ")", two().time(line), BAD);
        }
        Check.due("time(0) of no lines", new LineArchive().time(0), BAD);
        Check.due("time(60) of 60", Check.sixtyLines().time(60), BAD);
    }

    private static void promise8HowMany() {
        Check.sentence("Promise 8", "How many items a line has.");
        LineArchive a = new LineArchive();
        for (int length = 1; length <= 8; length++) {
            for (int i = 0; i < length; i++) {
                a.item(i);
            }
            a.write(length);
            Check.due("length(" + (length - 1) + ")", a.length(length - 1), length);
        }
        a.expire(8);
        Check.due("length(0) after expire", a.length(0), 8);
    }

    private static void promise8NotGood() {
        Check.sentence("Promise 8", "line is not good: BAD");
        for (int line : NOT_GOOD) {
            Check.due("length(" + line + ")", two().length(line), BAD);
        }
        Check.due("length(0) of no lines", new LineArchive().length(0), BAD);
        Check.due("length(60) of 60", Check.sixtyLines().length(60), BAD);
    }

    private static void promise9ZeroTheFirst() {
        Check.sentence("Promise 9", "Item i (0 the first) of a line.");
        LineArchive a = two();
        int[] items = {10, 1011, 12, 1013, 14, 1015, 16, 1017};
        Check.due("at(0, 0)", a.at(0, 0), 3);
        for (int i = 0; i < 8; i++) {
            Check.due("at(1, " + i + ")", a.at(1, i), items[i]);
        }
    }

    private static void promise9NotGood() {
        Check.sentence("Promise 9", "line is not good: BAD");
        for (int line : NOT_GOOD) {
            Check.due("at(" + line + ", 0)", two().at(line, 0), BAD);
            Check.due("at(" + line + ", 8)", two().at(line, 8), BAD);
            Check.due("at(" + line + ", -1)", two().at(line, -1), BAD);
        }
        Check.due("at(0, 0) of no lines", new LineArchive().at(0, 0), BAD);
        Check.due("at(60, 0) of 60", Check.sixtyLines().at(60, 0), BAD);
    }

    private static void promise9ThereIsNone() {
        Check.sentence("Promise 9", "there is none: NONE");
        LineArchive a = two();
        int[] noPlaces = {LEAST, -8, -1, 8, 9, GREATEST};
        for (int i : noPlaces) {
            Check.due("at(0, " + i + ")", a.at(0, i), NONE);
            Check.due("at(1, " + i + ")", a.at(1, i), NONE);
        }
        Check.due("at(0, 1), of a line before a longer one", a.at(0, 1), NONE);
        a.expire(1001);
        Check.write(a, 0, 5, 6);
        Check.write(a, 0, 7);
        Check.due("at(1, 1), of a line where a longer one was", a.at(1, 1), NONE);
        Check.due("at(1, 0) of that line", a.at(1, 0), 7);
    }

    private static void promise15Anywhere() {
        Check.sentence("Promise 15", "an item (anywhere in them) is");
        LineArchive a = two();
        int[] items = {3, 10, 1011, 12, 1013, 14, 1015, 16, 1017};
        for (int item : items) {
            Check.due("having(" + item + ")", a.having(item), 1);
        }
        int[] others = {0, 23, 1000, 1999, 11, 1010, 1003, 17};
        for (int item : others) {
            Check.due("having(" + item + ")", a.having(item), 0);
        }
    }

    private static void promise15HowManyLines() {
        Check.sentence("Promise 15", "In how many lines");
        LineArchive a = new LineArchive();
        Check.due("having(5) of no lines", a.having(5), 0);
        for (int line = 0; line < 60; line++) {
            Check.write(a, line, 5, 5, 1005);
        }
        Check.due("having(5), twice in each of 60", a.having(5), 60);
        Check.due("having(1005) in each of 60", a.having(1005), 60);
        a.item(6);
        Check.due("having(6), in the draft", a.having(6), 0);
        a.expire(59);
        Check.due("having(5) in one left", a.having(5), 1);
        a.expire(60);
        Check.due("having(5) in none left", a.having(5), 0);
    }

    private static void promise15NotAnItem() {
        Check.sentence("Promise 15", "item is not one: BAD");
        int[] wrong = {LEAST, -1, 24, 999, 2000, 2001, 2002, 3000, 3999, GREATEST};
        for (int item : wrong) {
            Check.due("having(" + item + ")", two().having(item), BAD);
            Check.due("having(" + item + ") of no lines", new LineArchive().having(item), BAD);
        }
        int[] edges = {0, 23, 1000, 1999};
        for (int item : edges) {
            Check.due("having(" + item + ")", two().having(item), 0);
        }
    }

    private static void promise21BothIncluded() {
        Check.sentence("Promise 21", "both included");
        LineArchive a = Check.sixtyLines();
        Check.due("between(0, 59)", a.between(0, 59), 60);
        Check.due("between(0, 0)", a.between(0, 0), 1);
        Check.due("between(59, 59)", a.between(59, 59), 1);
        Check.due("between(1, 58)", a.between(1, 58), 58);
        Check.due("between(7, 8)", a.between(7, 8), 2);
        Check.due("between(8, 7)", a.between(8, 7), 0);
        Check.due("between(60, 1000)", a.between(60, 1000), 0);
        Check.due("between(0, 1000) of no lines", new LineArchive().between(0, 1000), 0);
        LineArchive b = two();
        Check.due("between(1000, 1000)", b.between(1000, 1000), 1);
        Check.due("between(0, 999)", b.between(0, 999), 1);
        Check.due("between(1, 999)", b.between(1, 999), 0);
    }

    private static void promise21AnyInts() {
        Check.sentence("Promise 21", "(any ints, both included)");
        LineArchive a = two();
        Check.due("between(least, greatest)", a.between(LEAST, GREATEST), 2);
        Check.due("between(greatest, least)", a.between(GREATEST, LEAST), 0);
        Check.due("between(least, least)", a.between(LEAST, LEAST), 0);
        Check.due("between(greatest, greatest)", a.between(GREATEST, GREATEST), 0);
        Check.due("between(least, -1)", a.between(LEAST, -1), 0);
        Check.due("between(least, 0)", a.between(LEAST, 0), 1);
        Check.due("between(-1, 0)", a.between(-1, 0), 1);
        Check.due("between(1000, 1001)", a.between(1000, 1001), 1);
        Check.due("between(1000, greatest)", a.between(1000, GREATEST), 1);
        Check.due("between(1001, greatest)", a.between(1001, GREATEST), 0);
    }

    private static void promise22Span() {
        Check.sentence("Promise 22", "in some span of width times, t .. t + width - 1");
        for (int apart = 0; apart <= 1000; apart += 50) {
            LineArchive a = new LineArchive();
            Check.write(a, 1000 - apart, 1);
            Check.write(a, 1000, 2);
            Check.due("burst(" + (apart + 1) + "), " + apart + " apart", a.burst(apart + 1), 2);
            Check.due("burst(" + apart + "), " + apart + " apart", a.burst(apart), apart == 0 ? BAD : 1);
        }
        LineArchive a = Check.sixtyLines();
        for (int width = 1; width <= 61; width++) {
            Check.due("burst(" + width + ") of 60, one at each time", a.burst(width), width < 60 ? width : 60);
        }
    }

    private static int burstOf(int width, int... times) {
        LineArchive a = new LineArchive();
        for (int time : times) {
            Check.write(a, time, 1);
        }
        return a.burst(width);
    }

    private static void promise22Greatest() {
        Check.sentence("Promise 22", "The greatest number of lines");
        Check.due("the most at the front", burstOf(2, 0, 0, 1, 5, 6, 1000), 3);
        Check.due("the most in the middle", burstOf(2, 0, 5, 5, 6, 9, 10), 3);
        Check.due("the most at the end", burstOf(2, 0, 1, 6, 999, 1000, 1000), 3);
        Check.due("all at one time", burstOf(1, 7, 7, 7, 7, 7), 5);
        Check.due("a span that begins within a row of near times", burstOf(3, 0, 2, 3, 4, 4, 8), 4);
        Check.due("one line", burstOf(1, 1000), 1);
        Check.due("no lines", burstOf(1), 0);
    }

    private static void promise22WideSpans() {
        Check.sentence("Promise 22", "t .. t + width - 1");
        int[] wide = {1001, 1002, GREATEST - 1001, GREATEST - 1000, GREATEST - 999, GREATEST - 1, GREATEST};
        for (int width : wide) {
            Check.due("burst(" + width + ")", burstOf(width, 0, 500, 1000), 3);
            Check.due("burst(" + width + "), from 1 on", burstOf(width, 1, 500, 1000), 3);
            Check.due("burst(" + width + "), at 1000 alone", burstOf(width, 1000, 1000), 2);
            Check.due("burst(" + width + ") of no lines", burstOf(width), 0);
        }
        Check.due("burst(1000)", burstOf(1000, 0, 500, 1000), 2);
    }

    private static void promise22WidthBelowOne() {
        Check.sentence("Promise 22", "width is below 1: BAD");
        int[] wrong = {LEAST, LEAST + 1, -1000, -1, 0};
        for (int width : wrong) {
            Check.due("burst(" + width + ")", burstOf(width, 0, 0, 1000), BAD);
            Check.due("burst(" + width + ") of no lines", burstOf(width), BAD);
        }
        Check.due("burst(1)", burstOf(1, 0, 0, 1000), 2);
    }

    private static int digestOf(int time, int... items) {
        LineArchive a = new LineArchive();
        Check.write(a, time, items);
        return a.digest();
    }

    private static void promise23Sum() {
        Check.sentence("Promise 23", "The sum, over all lines, of (line + 1) times "
            + "(time + the sum over its items of (place + 3) times the item)");
        Check.due("of no lines", new LineArchive().digest(), 0);
        Check.due("of word 0 at 0", digestOf(0, 0), 0);
        Check.due("of word 0 at 1000", digestOf(1000, 0), 1000);
        Check.due("of word 1", digestOf(0, 1), 3);
        Check.due("of number 0", digestOf(0, 1000), 3000);
        Check.due("of number 999", digestOf(0, 1999), 5997);
        for (int place = 0; place < 8; place++) {
            int[] items = new int[8];
            items[place] = 1;
            Check.due("of word 1 at place " + place, digestOf(0, items), place + 3);
        }
        LineArchive a = new LineArchive();
        for (int line = 0; line < 60; line++) {
            Check.write(a, 1, 0);
        }
        Check.due("of word 0 at 1, 60 times", a.digest(), 60 * 61 / 2);
        a.item(5);
        a.part(5);
        Check.due("with a draft and a pattern", a.digest(), 60 * 61 / 2);
        a.expire(2);
        Check.due("of no lines left", a.digest(), 0);
    }

    /** No archive comes to a sum that wraps, so the greatest one there can be is the edge. */
    private static void promise23Wrapping() {
        Check.sentence("Promise 23", "(wrapping)");
        LineArchive a = new LineArchive();
        Check.write(a, 1000, 1999, 1999, 1999, 1999, 1999, 1999, 1999, 1999);
        for (int line = 1; line < 60; line++) {
            a.recall(0);
            a.write(1000);
        }
        Check.due("of the greatest items at the greatest time, 60 times", a.digest(), 192_054_840);
    }
}

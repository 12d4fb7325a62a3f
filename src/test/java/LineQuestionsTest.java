/** Promises 6 to 9, 15 and 21 to 23: questions about lines, items and times. */
public final class LineQuestionsTest {
    private static final int BAD = LineArchive.BAD;
    private static final int NONE = LineArchive.NONE;
    private static final int[] NO_LINES = {-1, 3, 59, 60, Integer.MIN_VALUE, Integer.MAX_VALUE};

    public static void main(String[] args) {
        promise6Lines();
        promise7Time();
        promise8Length();
        promise9At();
        promise15Having();
        promise15WrongItems();
        promise21Between();
        promise22Burst();
        promise22BurstEdges();
        promise23Digest();
        promise23DigestOfAFullArchive();
        Check.finish();
    }

    private static LineArchive three() {
        LineArchive a = new LineArchive();
        Check.write(a, 0, 3, 1007, 3);
        Check.write(a, 8, 1000, 23, 0, 1999, 5, 6, 7, 8);
        Check.write(a, 1000, 1007);
        return a;
    }

    private static void promise6Lines() {
        LineArchive a = three();
        Check.due("lines()", a.lines(), 3);
        a.item(1);
        Check.due("lines() with a draft", a.lines(), 3);
        a.write(1000);
        Check.due("lines() after write", a.lines(), 4);
        a.expire(9);
        Check.due("lines() after expire", a.lines(), 2);
    }

    private static void promise7Time() {
        LineArchive a = three();
        Check.due("time(0)", a.time(0), 0);
        Check.due("time(1)", a.time(1), 8);
        Check.due("time(2)", a.time(2), 1000);
        for (int line : NO_LINES) {
            Check.due("time(" + line + ")", a.time(line), BAD);
        }
        a.expire(8);
        Check.due("time(2) of a line dropped", a.time(2), BAD);
    }

    private static void promise8Length() {
        LineArchive a = three();
        Check.due("length(0)", a.length(0), 3);
        Check.due("length(1)", a.length(1), 8);
        Check.due("length(2)", a.length(2), 1);
        for (int line : NO_LINES) {
            Check.due("length(" + line + ")", a.length(line), BAD);
        }
    }

    private static void promise9At() {
        LineArchive a = three();
        Check.lineIs("at", a, 0, 0, 3, 1007, 3);
        Check.lineIs("at", a, 1, 8, 1000, 23, 0, 1999, 5, 6, 7, 8);
        Check.lineIs("at", a, 2, 1000, 1007);
        int[] noPlaces = {-1, 8, 9, Integer.MIN_VALUE, Integer.MAX_VALUE};
        for (int i : noPlaces) {
            Check.due("at(1, " + i + ")", a.at(1, i), NONE);
        }
        Check.due("at(0, 3)", a.at(0, 3), NONE);
        for (int line : NO_LINES) {
            Check.due("at(" + line + ", 0)", a.at(line, 0), BAD);
            Check.due("at(" + line + ", -1)", a.at(line, -1), BAD);
        }
    }

    private static void promise15Having() {
        LineArchive a = three();
        Check.due("having(3), twice in one line", a.having(3), 1);
        Check.due("having(1007)", a.having(1007), 2);
        Check.due("having(1000)", a.having(1000), 1);
        Check.due("having(1999)", a.having(1999), 1);
        Check.due("having(0)", a.having(0), 1);
        Check.due("having(23)", a.having(23), 1);
        Check.due("having(8), the last of eight", a.having(8), 1);
        Check.due("having(7), not the number 7", a.having(7), 1);
        Check.due("having(1003), not the word 3", a.having(1003), 0);
        Check.due("having(22)", a.having(22), 0);
        a.item(22);
        Check.due("having(22), in the draft alone", a.having(22), 0);
        a.expire(1);
        Check.due("having(3) after its line is dropped", a.having(3), 0);
        Check.due("having(1007) after a line is dropped", a.having(1007), 1);
        LineArchive b = new LineArchive();
        Check.write(b, 0, 1, 2, 3);
        b.expire(1);
        Check.write(b, 1, 4);
        Check.due("having(2) of a longer line dropped", b.having(2), 0);
    }

    private static void promise15WrongItems() {
        LineArchive a = three();
        int[] wrong = {-1, 24, 999, 2000, 2001, 2002, 3000, Integer.MIN_VALUE, Integer.MAX_VALUE};
        for (int item : wrong) {
            Check.due("having(" + item + ")", a.having(item), BAD);
        }
    }

    private static void promise21Between() {
        LineArchive a = three();
        Check.due("between(0, 1000)", a.between(0, 1000), 3);
        Check.due("between(0, 999)", a.between(0, 999), 2);
        Check.due("between(1, 1000)", a.between(1, 1000), 2);
        Check.due("between(8, 8)", a.between(8, 8), 1);
        Check.due("between(9, 999)", a.between(9, 999), 0);
        Check.due("between(1, 7)", a.between(1, 7), 0);
        Check.due("between(8, 0)", a.between(8, 0), 0);
        Check.due("between(-5, -1)", a.between(-5, -1), 0);
        Check.due("between(1001, greatest)", a.between(1001, Integer.MAX_VALUE), 0);
        Check.due("between(least, greatest)", a.between(Integer.MIN_VALUE, Integer.MAX_VALUE), 3);
        Check.due("between(greatest, least)", a.between(Integer.MAX_VALUE, Integer.MIN_VALUE), 0);
        Check.write(a, 1000, 1);
        Check.due("between(1000, 1000) of two", a.between(1000, 1000), 2);
    }

    private static void promise22Burst() {
        LineArchive a = new LineArchive();
        int[] times = {0, 3, 3, 10, 11, 12, 14, 1000};
        for (int time : times) {
            Check.write(a, time, 1);
        }
        Check.due("burst(1)", a.burst(1), 2);
        Check.due("burst(2)", a.burst(2), 2);
        Check.due("burst(3)", a.burst(3), 3);
        Check.due("burst(4)", a.burst(4), 3);
        Check.due("burst(5)", a.burst(5), 4);
        Check.due("burst(9)", a.burst(9), 4);
        Check.due("burst(10)", a.burst(10), 5);
        Check.due("burst(11)", a.burst(11), 5);
        Check.due("burst(12)", a.burst(12), 6);
        Check.due("burst(15)", a.burst(15), 7);
        Check.due("burst(1000)", a.burst(1000), 7);
        Check.due("burst(1001)", a.burst(1001), 8);
        Check.due("burst(greatest)", a.burst(Integer.MAX_VALUE), 8);
    }

    private static void promise22BurstEdges() {
        LineArchive a = new LineArchive();
        Check.due("burst(0) of no lines", a.burst(0), BAD);
        Check.due("burst(1) of no lines", a.burst(1), 0);
        Check.due("burst(greatest) of no lines", a.burst(Integer.MAX_VALUE), 0);
        Check.write(a, 1000, 1);
        Check.due("burst(1) of one line", a.burst(1), 1);
        Check.due("burst(0)", a.burst(0), BAD);
        Check.due("burst(-1)", a.burst(-1), BAD);
        Check.due("burst(least)", a.burst(Integer.MIN_VALUE), BAD);
    }

    private static void promise23Digest() {
        LineArchive a = new LineArchive();
        Check.write(a, 0, 0);
        Check.due("digest() of word 0 at time 0", a.digest(), 0);
        Check.write(a, 5, 2, 1001);
        // 2 * (5 + 3 * 2 + 4 * 1001)
        Check.due("digest() of two lines", a.digest(), 8030);
        Check.write(a, 7, 1000, 1, 4);
        // 8030 + 3 * (7 + 3 * 1000 + 4 * 1 + 5 * 4)
        Check.due("digest() of three lines", a.digest(), 17123);
        a.item(9);
        a.part(9);
        Check.due("digest() with a draft and a pattern", a.digest(), 17123);
        a.expire(5);
        // 1 * 4015 + 2 * 3031
        Check.due("digest() after expire", a.digest(), 10077);
    }

    private static void promise23DigestOfAFullArchive() {
        LineArchive a = new LineArchive();
        a.item(0);
        a.write(1000);
        int want = 1000;
        for (int i = 0; i < 8; i++) {
            a.item(1999);
        }
        for (int line = 1; line < 60; line++) {
            a.write(1000);
            a.recall(1);
            want += (line + 1) * (1000 + 1999 * (3 + 4 + 5 + 6 + 7 + 8 + 9 + 10));
        }
        Check.due("lines() when full", a.lines(), 60);
        Check.due("digest() when full", a.digest(), want);
    }
}

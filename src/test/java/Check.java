/** What all tests of the project share: counting wrong answers, and short ways to fill an archive. */
final class Check {
    private static int wrong = 0;
    private static int checked = 0;
    private static String sentence = "";
    private static int checkedBeforeSentence = 0;

    private Check() {
    }

    /** What is looked at from here on is due to these words of the document, until the next ones. */
    static void sentence(String where, String words) {
        endSentence();
        sentence = where + ", \"" + words + "\": ";
        checkedBeforeSentence = checked;
    }

    // Else a sentence could be named, and have no test.
    private static void endSentence() {
        if (!sentence.isEmpty() && checked == checkedBeforeSentence) {
            wrong++;
            System.out.println(sentence + "nothing was looked at");
        }
    }

    static void due(String call, long got, long want) {
        checked++;
        if (got != want) {
            wrong++;
            System.out.println(sentence + call + " answered " + got + ", due is " + want);
        }
    }

    static void holds(String what, boolean isSo) {
        checked++;
        if (!isSo) {
            wrong++;
            System.out.println(sentence + "does not hold: " + what);
        }
    }

    /** Writes a line of these items; answers what write answered. */
    static int write(LineArchive archive, int time, int... items) {
        for (int i = 0; i < items.length; i++) {
            due("item(" + items[i] + ") as item " + i + " of a line", archive.item(items[i]), i + 1);
        }
        return archive.write(time);
    }

    /** Makes these parts the pattern. */
    static void pattern(LineArchive archive, int... parts) {
        archive.blank();
        for (int p = 0; p < parts.length; p++) {
            due("part(" + parts[p] + ") as part " + p, archive.part(parts[p]), p + 1);
        }
    }

    static void lineIs(String when, LineArchive archive, int line, int time, int... items) {
        due(when + ": time(" + line + ")", archive.time(line), time);
        due(when + ": length(" + line + ")", archive.length(line), items.length);
        for (int i = 0; i < items.length; i++) {
            due(when + ": at(" + line + ", " + i + ")", archive.at(line, i), items[i]);
        }
        due(when + ": at(" + line + ", " + items.length + ")", archive.at(line, items.length), LineArchive.NONE);
    }

    /** Lines 0 .. 59, each of the one item 1000 + its number, at the time of its number. */
    static LineArchive sixtyLines() {
        LineArchive archive = new LineArchive();
        for (int line = 0; line < 60; line++) {
            archive.item(1000 + line);
            archive.write(line);
        }
        return archive;
    }

    static boolean allRight() {
        return wrong == 0;
    }

    static void finish() {
        endSentence();
        System.out.println(checked + " answers looked at, " + wrong + " wrong");
        if (wrong != 0 || checked == 0) {
            System.exit(1);
        }
    }
}

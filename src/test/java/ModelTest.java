import java.util.ArrayList;
import java.util.HashSet;
import java.util.List;
import java.util.Set;

/**
 * All promises at once: long runs of calls, the same each time, on an archive and on a model that is
 * written from the document with lists and recursion, so that a fault is unlikely to be in both.
 */
public final class ModelTest {
    private static final int RUNS = 3000;
    private static final int CALLS = 512;

    private record Line(int time, List<Integer> items) {
        List<Integer> shape() {
            List<Integer> shape = new ArrayList<>();
            for (int item : items) {
                shape.add(item >= 1000 ? 1000 : item);
            }
            return shape;
        }
    }

    private static final class Model {
        private final List<Line> lines = new ArrayList<>();
        private final List<Integer> draft = new ArrayList<>();
        private final List<Integer> pattern = new ArrayList<>();

        private boolean good(int line) {
            return 0 <= line && line < lines.size();
        }

        private static boolean isItem(int item) {
            return (0 <= item && item <= 23) || (1000 <= item && item <= 1999);
        }

        private static boolean isPart(int part) {
            return isItem(part) || (2000 <= part && part <= 2002) || (3000 <= part && part <= 3999);
        }

        private static int append(List<Integer> row, int value, boolean isOne) {
            if (!isOne) {
                return -1;
            }
            if (row.size() == 8) {
                return -3;
            }
            row.add(value);
            return row.size();
        }

        private int write(int time) {
            if (time < 0 || time > 1000 || (!lines.isEmpty() && time < lines.get(lines.size() - 1).time)) {
                return -1;
            }
            if (draft.isEmpty()) {
                return -2;
            }
            if (lines.size() == 60) {
                return -3;
            }
            lines.add(new Line(time, List.copyOf(draft)));
            draft.clear();
            return lines.size() - 1;
        }

        private int recall(int line) {
            if (!good(line)) {
                return -1;
            }
            draft.clear();
            draft.addAll(lines.get(line).items);
            return draft.size();
        }

        private int expire(int time) {
            int before = lines.size();
            lines.removeIf(line -> line.time < time);
            return before - lines.size();
        }

        private int at(int line, int i) {
            if (!good(line)) {
                return -1;
            }
            List<Integer> items = lines.get(line).items;
            return 0 <= i && i < items.size() ? items.get(i) : -2;
        }

        private List<Integer> groupOf(int line) {
            List<Integer> group = new ArrayList<>();
            for (int other = 0; other < lines.size(); other++) {
                if (lines.get(other).shape().equals(lines.get(line).shape())) {
                    group.add(other);
                }
            }
            return group;
        }

        private List<List<Integer>> allGroups() {
            List<List<Integer>> groups = new ArrayList<>();
            for (int line = 0; line < lines.size(); line++) {
                List<Integer> group = groupOf(line);
                if (group.get(0) == line) {
                    groups.add(group);
                }
            }
            return groups;
        }

        private int largest(int k) {
            List<List<Integer>> groups = allGroups();
            // A stable sort: groups of the same size stay in the order of their firsts.
            groups.sort((one, other) -> other.size() - one.size());
            return 0 <= k && k < groups.size() ? groups.get(k).get(0) : -2;
        }

        private int column(int line, int i, int what) {
            if (!good(line) || what < 0 || what > 3) {
                return -1;
            }
            List<Integer> items = lines.get(line).items;
            if (i < 0 || i >= items.size() || items.get(i) < 1000) {
                return -2;
            }
            List<Integer> numbers = new ArrayList<>();
            for (int member : groupOf(line)) {
                numbers.add(lines.get(member).items.get(i) - 1000);
            }
            return switch (what) {
                case 0 -> numbers.stream().mapToInt(n -> n).min().getAsInt();
                case 1 -> numbers.stream().mapToInt(n -> n).max().getAsInt();
                case 2 -> numbers.stream().mapToInt(n -> n).sum();
                default -> (int) numbers.stream().distinct().count();
            };
        }

        private int having(int item) {
            return isItem(item) ? (int) lines.stream().filter(line -> line.items.contains(item)).count() : -1;
        }

        private static boolean takes(int part, int item) {
            if (part >= 3000) {
                return item >= 1000 && item - 1000 > part - 3000;
            }
            return part == 2000 || (part == 2001 && item >= 1000) || part == item;
        }

        private static boolean shared(List<Integer> items, List<Integer> parts) {
            if (parts.isEmpty()) {
                return items.isEmpty();
            }
            List<Integer> laterParts = parts.subList(1, parts.size());
            if (parts.get(0) == 2002) {
                return shared(items, laterParts)
                    || (!items.isEmpty() && shared(items.subList(1, items.size()), parts));
            }
            return !items.isEmpty() && takes(parts.get(0), items.get(0))
                && shared(items.subList(1, items.size()), laterParts);
        }

        private boolean fits(int line) {
            return !pattern.isEmpty() && shared(lines.get(line).items, pattern);
        }

        private int count(int from, int to, boolean onlyFitting) {
            int count = 0;
            for (int line = 0; line < lines.size(); line++) {
                int time = lines.get(line).time;
                if (from <= time && time <= to && (!onlyFitting || fits(line))) {
                    count++;
                }
            }
            return count;
        }

        private int next(int after) {
            for (int line = 0; line < lines.size(); line++) {
                if (line > after && fits(line)) {
                    return line;
                }
            }
            return -2;
        }

        private int fittingGroups() {
            Set<List<Integer>> shapes = new HashSet<>();
            for (int line = 0; line < lines.size(); line++) {
                if (fits(line)) {
                    shapes.add(lines.get(line).shape());
                }
            }
            return shapes.size();
        }

        private int burst(int width) {
            if (width < 1) {
                return -1;
            }
            int most = 0;
            for (int t = 0; t <= 1000; t++) {
                long end = (long) t + width - 1;
                most = Math.max(most, count(t, (int) Math.min(end, 1000), false));
            }
            return most;
        }

        private int digest() {
            int sum = 0;
            for (int line = 0; line < lines.size(); line++) {
                int weight = lines.get(line).time;
                for (int place = 0; place < lines.get(line).items.size(); place++) {
                    weight += (place + 3) * lines.get(line).items.get(place);
                }
                sum += (line + 1) * weight;
            }
            return sum;
        }
    }

    /** Numbers that look drawn by lot, but are the same in every run of the test. */
    private static final class Draw {
        private long state;

        private Draw(long seed) {
            state = seed;
        }

        private int below(int bound) {
            state = state * 6364136223846793005L + 1442695040888963407L;
            return (int) ((state >>> 33) % bound);
        }

        private int of(int... values) {
            return values[below(values.length)];
        }
    }

    private final int run;
    private final Draw draw;
    private final int words;
    private final int numbers;
    private final int step;
    private final Model model = new Model();
    private final LineArchive archive = new LineArchive();

    private ModelTest(int run) {
        this.run = run;
        draw = new Draw(run);
        // Few words and numbers make lines alike; many make them differ.
        words = draw.of(1, 2, 3, 24);
        numbers = draw.of(1, 2, 5, 1000);
        step = draw.of(1, 2, 5, 40);
    }

    private int anyInt() {
        return draw.of(Integer.MIN_VALUE, Integer.MAX_VALUE, -1, 24, 999, 2000, 2003, 2999, 4000, 1001);
    }

    private int drawItem() {
        if (draw.below(40) == 0) {
            return anyInt();
        }
        return draw.below(2) == 0 ? draw.below(words) : 1000 + draw.below(numbers);
    }

    private int drawPart() {
        return switch (draw.below(8)) {
            case 0 -> 2000;
            case 1 -> 2001;
            case 2, 3 -> 2002;
            case 4 -> 3000 + draw.below(numbers);
            default -> drawItem();
        };
    }

    private int drawLine() {
        if (draw.below(15) == 0) {
            return draw.of(-1, model.lines.size(), anyInt());
        }
        return draw.below(model.lines.size() + 1);
    }

    private int drawPlace() {
        return draw.below(20) == 0 ? anyInt() : draw.below(9);
    }

    private int drawTime() {
        if (draw.below(20) == 0) {
            return draw.of(anyInt(), 0, 1000, draw.below(1001));
        }
        int last = model.lines.isEmpty() ? 0 : model.lines.get(model.lines.size() - 1).time;
        return last + draw.below(step);
    }

    private int drawLineTime() {
        if (model.lines.isEmpty() || draw.below(10) == 0) {
            return draw.of(anyInt(), draw.below(1001));
        }
        return model.lines.get(draw.below(model.lines.size())).time + draw.of(-1, 0, 0, 1);
    }

    private void due(String call, int got, int want) {
        Check.due("run " + run + ": " + call, got, want);
    }

    private void change() {
        int a;
        switch (draw.below(24)) {
            case 0, 1, 2, 3, 4 -> {
                a = drawItem();
                due("item(" + a + ")", archive.item(a), Model.append(model.draft, a, Model.isItem(a)));
            }
            case 5, 6, 7, 8, 9, 10, 11 -> {
                a = drawTime();
                due("write(" + a + ")", archive.write(a), model.write(a));
            }
            case 12, 13, 14, 15, 16, 17 -> {
                a = drawLine();
                due("recall(" + a + ")", archive.recall(a), model.recall(a));
            }
            case 18, 19, 20, 21 -> {
                a = drawPart();
                due("part(" + a + ")", archive.part(a), Model.append(model.pattern, a, Model.isPart(a)));
            }
            case 22 -> {
                due("blank()", archive.blank(), model.pattern.size());
                model.pattern.clear();
            }
            default -> {
                // Seldom, so that some archives grow full.
                a = draw.below(6) == 0 ? drawLineTime() : Integer.MIN_VALUE;
                due("expire(" + a + ")", archive.expire(a), model.expire(a));
            }
        }
    }

    private void askOfLines() {
        int a = drawLine();
        int b = drawPlace();
        boolean good = model.good(a);
        switch (draw.below(8)) {
            case 0 -> due("lines()", archive.lines(), model.lines.size());
            case 1 -> due("time(" + a + ")", archive.time(a), good ? model.lines.get(a).time : -1);
            case 2 -> due("length(" + a + ")", archive.length(a), good ? model.lines.get(a).items.size() : -1);
            case 3 -> due("at(" + a + ", " + b + ")", archive.at(a, b), model.at(a, b));
            case 4 -> due("group(" + a + ")", archive.group(a), good ? model.groupOf(a).get(0) : -1);
            case 5 -> due("members(" + a + ")", archive.members(a), good ? model.groupOf(a).size() : -1);
            case 6 -> due("digest()", archive.digest(), model.digest());
            default -> {
                int what = draw.below(20) == 0 ? draw.of(-1, 4, anyInt()) : draw.below(4);
                due("column(" + a + ", " + b + ", " + what + ")",
                    archive.column(a, b, what), model.column(a, b, what));
            }
        }
    }

    private void askOfAll() {
        int from = drawLineTime();
        int to = drawLineTime();
        int a;
        switch (draw.below(8)) {
            case 0 -> due("groups()", archive.groups(), model.allGroups().size());
            case 1 -> {
                a = draw.below(10) == 0 ? anyInt() : draw.below(5);
                due("largest(" + a + ")", archive.largest(a), model.largest(a));
            }
            case 2 -> {
                a = drawItem();
                due("having(" + a + ")", archive.having(a), model.having(a));
            }
            case 3 -> due("fitting(" + from + ", " + to + ")",
                archive.fitting(from, to), model.count(from, to, true));
            case 4 -> {
                a = drawLine();
                due("next(" + a + ")", archive.next(a), model.next(a));
            }
            case 5 -> due("fittingGroups()", archive.fittingGroups(), model.fittingGroups());
            case 6 -> due("between(" + from + ", " + to + ")",
                archive.between(from, to), model.count(from, to, false));
            default -> {
                a = draw.below(10) == 0 ? draw.of(0, anyInt()) : 1 + draw.below(3 * step);
                due("burst(" + a + ")", archive.burst(a), model.burst(a));
            }
        }
    }

    private void run() {
        for (int call = 0; call < CALLS; call++) {
            switch (draw.below(5)) {
                case 0 -> askOfLines();
                case 1 -> askOfAll();
                default -> change();
            }
        }
    }

    public static void main(String[] args) {
        int full = 0;
        int most = 0;
        // The first wrong run is enough to tell the fault.
        for (int run = 0; run < RUNS && Check.allRight(); run++) {
            ModelTest test = new ModelTest(run);
            test.run();
            most = Math.max(most, test.model.allGroups().size());
            if (test.model.lines.size() == 60) {
                full++;
            }
        }
        if (Check.allRight()) {
            Check.holds("some runs end with a full archive", full > 0);
            Check.holds("some runs end with many groups", most > 20);
        }
        Check.finish();
    }
}

import java.util.ArrayList;
import java.util.List;
import java.util.Map;
import java.util.TreeMap;

/**
 * The document's Terms and promises once more, held in another way: lines and rows are kept in
 * maps by PLACE, tags one by one. ModelTest runs the class against it.
 */
final class PlainModel {
    private static final class Line {
        final int number;
        final int[] words = new int[4];
        final boolean[] tags = new boolean[2];
        boolean changed;

        Line(int number) {
            this.number = number;
        }
    }

    private static final class Row {
        final int number;
        final boolean[] tags = new boolean[32];
        boolean changed;

        Row(int number) {
            this.number = number;
        }
    }

    private final int[] words = new int[2048];
    private final boolean[] tags = new boolean[1024];
    private final Map<Integer, Line> lines = new TreeMap<>();
    private final Map<Integer, Row> rows = new TreeMap<>();
    private int linesCame;
    private int linesBack;
    private int rowsCame;
    private int rowsBack;

    int read(int i) {
        inside(i, 2048);
        return want(i / 4).words[i % 4];
    }

    boolean tag(int i) {
        inside(i, 2048);
        return want(i / 4).tags[i % 4 / 2];
    }

    int write(int i, int w) {
        inside(i, 2048);
        Line line = want(i / 4);
        int before = line.words[i % 4];
        line.words[i % 4] = w;
        line.tags[i % 4 / 2] = false;
        line.changed = true;
        return before;
    }

    int part(int i, int at, int n, int v) {
        inside(i, 2048);
        boolean fits = n == 1 && at >= 0 && at <= 3 || n == 2 && (at == 0 || at == 2);
        if (!fits) {
            throw new IllegalArgumentException();
        }
        int word = read(i);
        for (int b = 0; b < n; b++) {
            int shift = 8 * (at + b);
            word &= ~(255 << shift);
            word |= (v >>> 8 * b & 255) << shift;
        }
        write(i, word);
        return word;
    }

    void put(int g, int low, int high, boolean tag) {
        inside(g, 1024);
        Line line = want(g / 2);
        line.words[g % 2 * 2] = low;
        line.words[g % 2 * 2 + 1] = high;
        line.tags[g % 2] = tag;
        line.changed = true;
    }

    boolean copy(int g, int f) {
        inside(f, 1024);
        inside(g, 1024);
        int low = read(2 * f);
        int high = read(2 * f + 1);
        boolean tag = tag(2 * f);
        put(g, low, high, tag);
        return tag;
    }

    int drop(int p) {
        inside(p, 16);
        Line line = lines.get(p);
        if (line == null) {
            return -1;
        }
        go(p);
        return line.changed ? 1 : 0;
    }

    int flush() {
        int before = linesBack;
        for (int p = 0; p < 16; p++) {
            go(p);
        }
        for (Row row : rows.values()) {
            writeBack(row);
        }
        rows.clear();
        return linesBack - before;
    }

    int store(int i) {
        inside(i, 2080);
        if (i < 2048) {
            return words[i];
        }
        int row = 0;
        for (int b = 0; b < 32; b++) {
            row |= tags[32 * (i - 2048) + b] ? 1 << b : 0;
        }
        return row;
    }

    int kept(int p) {
        inside(p, 20);
        if (p < 16) {
            return lines.containsKey(p) ? lines.get(p).number : -1;
        }
        return rows.containsKey(p - 16) ? rows.get(p - 16).number : -1;
    }

    int count(int what) {
        List<Integer> counts = new ArrayList<>(List.of(linesCame, linesBack, rowsCame, rowsBack));
        counts.add(tagsInAll());
        counts.add(lines.size());
        counts.add((int) lines.values().stream().filter(line -> line.changed).count());
        counts.add(rows.size());
        counts.add((int) rows.values().stream().filter(row -> row.changed).count());
        if (what < 0 || what >= counts.size()) {
            throw new IllegalArgumentException();
        }
        return counts.get(what);
    }

    int check() {
        return 0;
    }

    private int tagsInAll() {
        boolean[] seen = tags.clone();
        for (Row row : rows.values()) {
            System.arraycopy(row.tags, 0, seen, 32 * row.number, 32);
        }
        for (Line line : lines.values()) {
            System.arraycopy(line.tags, 0, seen, 2 * line.number, 2);
        }
        int all = 0;
        for (boolean tag : seen) {
            all += tag ? 1 : 0;
        }
        return all;
    }

    private static void inside(int i, int size) {
        if (i < 0 || i >= size) {
            throw new IndexOutOfBoundsException();
        }
    }

    private Line want(int number) {
        Line there = lines.get(number % 16);
        if (there != null && there.number == number) {
            return there;
        }
        go(number % 16);
        Line line = new Line(number);
        System.arraycopy(words, 4 * number, line.words, 0, 4);
        Row row = wantRow(number / 16);
        System.arraycopy(row.tags, 2 * number % 32, line.tags, 0, 2);
        lines.put(number % 16, line);
        linesCame++;
        return line;
    }

    private void go(int place) {
        Line line = lines.remove(place);
        if (line == null || !line.changed) {
            return;
        }
        System.arraycopy(line.words, 0, words, 4 * line.number, 4);
        Row row = wantRow(line.number / 16);
        System.arraycopy(line.tags, 0, row.tags, 2 * line.number % 32, 2);
        row.changed = true;
        linesBack++;
    }

    private Row wantRow(int number) {
        Row there = rows.get(number % 4);
        if (there != null && there.number == number) {
            return there;
        }
        if (there != null) {
            writeBack(there);
        }
        Row row = new Row(number);
        System.arraycopy(tags, 32 * number, row.tags, 0, 32);
        rows.put(number % 4, row);
        rowsCame++;
        return row;
    }

    private void writeBack(Row row) {
        if (row.changed) {
            System.arraycopy(row.tags, 0, tags, 32 * row.number, 32);
            rowsBack++;
        }
    }
}

/**
 * A memory whose every eight bytes have a tag. The tags lie in rows behind the words of one store;
 * a cache of lines (words with their tags) and a cache of rows stand in front of it, and both are
 * written back late.
 */
public final class TagMemory {
    private static final int WORDS = 2048;
    private static final int GRANULES = 1024;
    private static final int ROWS = 32;
    private static final int LINE_PLACES = 16;
    private static final int ROW_PLACES = 4;
    private static final int LINE_WORDS = 4;
    private static final int LINE_GRANULES = 2;
    private static final int ROW_LINES = 16;
    private static final int CACHED_WORDS = LINE_PLACES * LINE_WORDS;
    private static final int LINE_TAG_MASK = 3;
    private static final int NONE = -1;

    private final int[] stored = new int[WORDS + ROWS];

    private final int[] lineAt = new int[LINE_PLACES];
    private final int[] lineWords = new int[CACHED_WORDS];
    private final int[] lineTags = new int[LINE_PLACES];
    private final boolean[] lineChanged = new boolean[LINE_PLACES];

    private final int[] rowAt = new int[ROW_PLACES];
    private final int[] rowTags = new int[ROW_PLACES];
    private final boolean[] rowChanged = new boolean[ROW_PLACES];

    private int linesCame;
    private int linesWrittenBack;
    private int rowsCame;
    private int rowsWrittenBack;

    public TagMemory() {
        for (int p = 0; p < LINE_PLACES; p++) {
            lineAt[p] = NONE;
        }
        for (int p = 0; p < ROW_PLACES; p++) {
            rowAt[p] = NONE;
        }
    }

    public int read(int i) throws IndexOutOfBoundsException {
        refuseNoWord(i);
        wantLine(lineOfWord(i));
        return lineWords[slotOfWord(i)];
    }

    public boolean tag(int i) throws IndexOutOfBoundsException {
        refuseNoWord(i);
        int g = granuleOfWord(i);
        wantLine(lineOfGranule(g));
        return keptTag(g);
    }

    public int write(int i, int w) throws IndexOutOfBoundsException {
        refuseNoWord(i);
        wantLine(lineOfWord(i));
        int before = lineWords[slotOfWord(i)];
        changeWord(i, w);
        return before;
    }

    public int part(int i, int at, int n, int v) throws IndexOutOfBoundsException, IllegalArgumentException {
        refuseNoWord(i);
        refuseNoPart(at, n);
        wantLine(lineOfWord(i));
        int shift = 8 * at;
        int mask = n == 1 ? 0xFF : 0xFFFF;
        int others = lineWords[slotOfWord(i)] & ~(mask << shift);
        int word = others | ((v & mask) << shift);
        changeWord(i, word);
        return word;
    }

    public void put(int g, int low, int high, boolean tag) throws IndexOutOfBoundsException {
        refuseNoGranule(g);
        wantLine(lineOfGranule(g));
        changeGranule(g, low, high, tag);
    }

    public boolean copy(int g, int f) throws IndexOutOfBoundsException {
        refuseNoGranule(f);
        refuseNoGranule(g);
        wantLine(lineOfGranule(f));
        // Taken out before g's LINE is wanted: that one may drive f's LINE from its PLACE.
        int low = lineWords[slotOfWord(2 * f)];
        int high = lineWords[slotOfWord(2 * f + 1)];
        boolean tag = keptTag(f);
        wantLine(lineOfGranule(g));
        changeGranule(g, low, high, tag);
        return tag;
    }

    public int drop(int p) throws IndexOutOfBoundsException {
        if (p < 0 || p >= LINE_PLACES) {
            throw new IndexOutOfBoundsException("no such place for a line");
        }
        if (lineAt[p] == NONE) {
            return -1;
        }
        return letLineGo(p) ? 1 : 0;
    }

    public int flush() {
        int writtenBack = 0;
        for (int p = 0; p < LINE_PLACES; p++) {
            if (letLineGo(p)) {
                writtenBack++;
            }
        }
        for (int p = 0; p < ROW_PLACES; p++) {
            letRowGo(p);
        }
        return writtenBack;
    }

    public int store(int i) throws IndexOutOfBoundsException {
        if (i < 0 || i >= WORDS + ROWS) {
            throw new IndexOutOfBoundsException("no such word or row of the store");
        }
        return stored[i];
    }

    public int kept(int p) throws IndexOutOfBoundsException {
        if (p < 0 || p >= LINE_PLACES + ROW_PLACES) {
            throw new IndexOutOfBoundsException("no such place");
        }
        return p < LINE_PLACES ? lineAt[p] : rowAt[p - LINE_PLACES];
    }

    public int count(int what) throws IllegalArgumentException {
        switch (what) {
            case 0:
                return linesCame;
            case 1:
                return linesWrittenBack;
            case 2:
                return rowsCame;
            case 3:
                return rowsWrittenBack;
            case 4:
                return allTags();
            case 5:
                return howManyKept(lineAt);
            case 6:
                return howManyChanged(lineChanged);
            case 7:
                return howManyKept(rowAt);
            case 8:
                return howManyChanged(rowChanged);
            default:
                throw new IllegalArgumentException("no such count");
        }
    }

    public int check() {
        int wrong = 0;
        for (int p = 0; p < LINE_PLACES; p++) {
            if (lineAt[p] != NONE && isLineWrong(p)) {
                wrong++;
            }
        }
        for (int p = 0; p < ROW_PLACES; p++) {
            if (rowAt[p] != NONE && isRowWrong(p)) {
                wrong++;
            }
        }
        return wrong;
    }

    private static void refuseNoWord(int i) {
        if (i < 0 || i >= WORDS) {
            throw new IndexOutOfBoundsException("no such word");
        }
    }

    private static void refuseNoGranule(int g) {
        if (g < 0 || g >= GRANULES) {
            throw new IndexOutOfBoundsException("no such granule");
        }
    }

    private static void refuseNoPart(int at, int n) {
        if (n != 1 && n != 2) {
            throw new IllegalArgumentException("a part has one byte or two");
        }
        if (at < 0 || at > 3 || at % n != 0) {
            throw new IllegalArgumentException("no part begins there");
        }
    }

    private static int granuleOfWord(int i) {
        return i / 2;
    }

    private static int lineOfWord(int i) {
        return i / LINE_WORDS;
    }

    private static int lineOfGranule(int g) {
        return g / LINE_GRANULES;
    }

    private static int rowOfLine(int line) {
        return line / ROW_LINES;
    }

    private static int placeOfLine(int line) {
        return line % LINE_PLACES;
    }

    private static int placeOfRow(int row) {
        return row % ROW_PLACES;
    }

    private static int slotOfWord(int i) {
        return i % CACHED_WORDS;
    }

    private static int firstTagBit(int line) {
        return line % ROW_LINES * LINE_GRANULES;
    }

    private static int tagsOfLine(int line, int tagsOfRow) {
        return (tagsOfRow >>> firstTagBit(line)) & LINE_TAG_MASK;
    }

    private static int tagBit(int g) {
        return 1 << (g % LINE_GRANULES);
    }

    /** The TAG of a GRANULE whose LINE is kept. */
    private boolean keptTag(int g) {
        return (lineTags[placeOfLine(lineOfGranule(g))] & tagBit(g)) != 0;
    }

    /** Sets a WORD whose LINE is kept; a WORD written by itself takes its GRANULE's TAG away. */
    private void changeWord(int i, int w) {
        lineWords[slotOfWord(i)] = w;
        changeTag(granuleOfWord(i), false);
    }

    private void changeGranule(int g, int low, int high, boolean on) {
        lineWords[slotOfWord(2 * g)] = low;
        lineWords[slotOfWord(2 * g + 1)] = high;
        changeTag(g, on);
    }

    private void changeTag(int g, boolean on) {
        int p = placeOfLine(lineOfGranule(g));
        int others = lineTags[p] & ~tagBit(g);
        lineTags[p] = on ? others | tagBit(g) : others;
        lineChanged[p] = true;
    }

    private void wantLine(int line) {
        int p = placeOfLine(line);
        if (lineAt[p] != line) {
            letLineGo(p);
            bringLine(line, p);
        }
    }

    private void bringLine(int line, int p) {
        System.arraycopy(stored, line * LINE_WORDS, lineWords, p * LINE_WORDS, LINE_WORDS);
        int rowPlace = wantRow(rowOfLine(line));
        lineTags[p] = tagsOfLine(line, rowTags[rowPlace]);
        lineAt[p] = line;
        lineChanged[p] = false;
        linesCame++;
    }

    /** Empties a PLACE for LINES; tells whether a LINE was written back. */
    private boolean letLineGo(int p) {
        boolean writesBack = lineAt[p] != NONE && lineChanged[p];
        if (writesBack) {
            writeLineBack(lineAt[p], p);
        }
        lineAt[p] = NONE;
        lineChanged[p] = false;
        return writesBack;
    }

    private void writeLineBack(int line, int p) {
        System.arraycopy(lineWords, p * LINE_WORDS, stored, line * LINE_WORDS, LINE_WORDS);
        int rowPlace = wantRow(rowOfLine(line));
        int others = rowTags[rowPlace] & ~(LINE_TAG_MASK << firstTagBit(line));
        rowTags[rowPlace] = others | (lineTags[p] << firstTagBit(line));
        rowChanged[rowPlace] = true;
        linesWrittenBack++;
    }

    /** Sees to it that a ROW is kept; answers its PLACE. */
    private int wantRow(int row) {
        int p = placeOfRow(row);
        if (rowAt[p] != row) {
            letRowGo(p);
            rowTags[p] = stored[WORDS + row];
            rowAt[p] = row;
            rowsCame++;
        }
        return p;
    }

    private void letRowGo(int p) {
        if (rowAt[p] != NONE && rowChanged[p]) {
            stored[WORDS + rowAt[p]] = rowTags[p];
            rowsWrittenBack++;
        }
        rowAt[p] = NONE;
        rowChanged[p] = false;
    }

    /** The TAGS of a ROW without the LINES in front of it; nothing comes. */
    private int peekRow(int row) {
        int p = placeOfRow(row);
        return rowAt[p] == row ? rowTags[p] : stored[WORDS + row];
    }

    private int allTags() {
        int tags = 0;
        for (int row = 0; row < ROWS; row++) {
            tags += Integer.bitCount(peekRow(row));
        }
        for (int p = 0; p < LINE_PLACES; p++) {
            if (lineAt[p] != NONE) {
                // A kept LINE's own TAGS count in place of those that its ROW still has for it.
                tags += Integer.bitCount(lineTags[p]) - Integer.bitCount(tagsBehindLine(lineAt[p]));
            }
        }
        return tags;
    }

    private int tagsBehindLine(int line) {
        return tagsOfLine(line, peekRow(rowOfLine(line)));
    }

    private static int howManyKept(int[] keptAt) {
        int kept = 0;
        for (int number : keptAt) {
            if (number != NONE) {
                kept++;
            }
        }
        return kept;
    }

    private static int howManyChanged(boolean[] changedAt) {
        int changed = 0;
        for (boolean isChanged : changedAt) {
            if (isChanged) {
                changed++;
            }
        }
        return changed;
    }

    private boolean isLineWrong(int p) {
        int line = lineAt[p];
        if (placeOfLine(line) != p) {
            return true;
        }
        return !lineChanged[p] && !(areWordsAsStored(line, p) && lineTags[p] == tagsBehindLine(line));
    }

    private boolean areWordsAsStored(int line, int p) {
        for (int w = 0; w < LINE_WORDS; w++) {
            if (lineWords[p * LINE_WORDS + w] != stored[line * LINE_WORDS + w]) {
                return false;
            }
        }
        return true;
    }

    private boolean isRowWrong(int p) {
        int row = rowAt[p];
        if (placeOfRow(row) != p) {
            return true;
        }
        return !rowChanged[p] && rowTags[p] != stored[WORDS + row];
    }
}

/** The sentences of promises 1 to 13 that name an edge, each by itself; RefusalsTest has the refused calls. */
public final class EdgesTest {
    private static final Due DUE = new Due();
    private static final int[] VALUES = {0, 1, -1, 0x7FFF, 0x8000, 0xFFFF, 0x10000, Integer.MAX_VALUE,
        Integer.MIN_VALUE};

    public static void main(String[] args) {
        DUE.about("1: All is 0 and empty", EdgesTest::newObject);
        DUE.about("1: one object has nothing of another", EdgesTest::objectsApart);
        DUE.about("2: WORD i", EdgesTest::readFirstAndLast);
        DUE.about("3: The TAG of WORD i's GRANULE", EdgesTest::tagFirstAndLast);
        DUE.about("4: WORD i becomes w", EdgesTest::writeAllKinds);
        DUE.about("4: its GRANULE has no TAG then", EdgesTest::writeTakesTheTag);
        DUE.about("4: what it was", EdgesTest::writeTellsWhatItWas);
        DUE.about("5: Bytes at to at + n - 1 (0 the lowest) .. become the low ones of v", EdgesTest::partOfBytes);
        DUE.about("5: its GRANULE has no TAG then", EdgesTest::partTakesTheTag);
        DUE.about("5: the WORD", EdgesTest::partTellsTheWord);
        DUE.about("6: The two WORDS of GRANULE g become low and high", EdgesTest::putFirstAndLast);
        DUE.about("6: (its LINE is CHANGED, also if all stays the same", EdgesTest::putChangesAlways);
        DUE.about("6: so by write, part and copy)", EdgesTest::othersChangeAlways);
        DUE.about("6: its TAG is tag", EdgesTest::putTag);
        DUE.about("7: Both WORDS of GRANULE g become those of GRANULE f, its TAG too", EdgesTest::copyFirstAndLast);
        DUE.about("7: copy of a GRANULE onto itself", EdgesTest::copyOntoItself);
        DUE.about("7: copy within one LINE", EdgesTest::copyWithinOneLine);
        DUE.about("7: (f's LINE is wanted first), LINES of one PLACE", EdgesTest::copyWantsTheLineOfFFirst);
        DUE.about("7: (f's LINE is wanted first), ROWS of one PLACE", EdgesTest::copyWantsTheRowOfFFirst);
        DUE.about("7: f's TAG", EdgesTest::copyTellsTheTagOfF);
        DUE.about("7: f's TAG, also if f's LINE went for g's", EdgesTest::copyTellsTheTagOfFThatWent);
        DUE.about("8: The LINE at PLACE p goes: 1 if it was written back", EdgesTest::dropChanged);
        DUE.about("8: 0 if it was not CHANGED", EdgesTest::dropUnchanged);
        DUE.about("8: -1 if there was none", EdgesTest::dropNone);
        DUE.about("9: All LINES go, none there", EdgesTest::flushEmpty);
        DUE.about("9: All LINES go, all PLACES full", EdgesTest::flushFull);
        DUE.about("9: (from PLACE 0 on)", EdgesTest::flushFromPlace0);
        DUE.about("9: then all ROWS are written back that are CHANGED", EdgesTest::flushWritesChangedRows);
        DUE.about("9: and their PLACES are empty", EdgesTest::flushEmptiesAllPlaces);
        DUE.about("9: how many LINES were written back", EdgesTest::flushTellsLinesWrittenBack);
        DUE.about("10: WORD i of THE STORE, as it stands there", EdgesTest::storeAsItStands);
        DUE.about("10: 2048 to 2079 are its ROWS", EdgesTest::storeOfRows);
        DUE.about("11: Which LINE is kept at PLACE p; -1 if none", EdgesTest::keptLines);
        DUE.about("11: (16 to 19: which ROW at PLACE p - 16); -1 if none", EdgesTest::keptRows);
        DUE.about("12: 0: LINES came, 1: were written back", EdgesTest::countOfLinesThatCameAndWent);
        DUE.about("12: 2: ROWS came, 3: were written back", EdgesTest::countOfRowsThatCameAndWent);
        DUE.about("12: 4: TAGS there are in all (as tag would tell them)", EdgesTest::countOfTags);
        DUE.about("12: 5: LINES are kept, 6: of these CHANGED", EdgesTest::countOfLines);
        DUE.about("12: 7: ROWS are kept, 8: of these CHANGED", EdgesTest::countOfRows);
        DUE.about("13: always 0", EdgesTest::checkIsAlwaysZero);
        DUE.about("13: not as in .. their ROW", EdgesTest::checkAsksTheRow);
        DUE.end();
    }

    private static void newObject() {
        TagMemory m = new TagMemory();
        DUE.counted("new", m, 0, 0, 0, 0, 0, 0, 0, 0, 0);
        for (int p = 0; p < 20; p++) {
            DUE.is("kept(" + p + ")", m.kept(p), -1);
        }
        for (int i : new int[] {0, 1, 2046, 2047, 2048, 2079}) {
            DUE.is("store(" + i + ")", m.store(i), 0);
        }
        DUE.is("check()", m.check(), 0);
    }

    private static void objectsApart() {
        TagMemory one = new TagMemory();
        one.put(0, 1, 2, true);
        TagMemory other = new TagMemory();
        one.put(1023, 1, 2, true);
        one.flush();
        one.read(0);
        DUE.is("the other object", Fields.of(other), Fields.of(new TagMemory()));
    }

    private static void readFirstAndLast() {
        TagMemory m = new TagMemory();
        for (int i : new int[] {0, 3, 4, 63, 64, 2044, 2047}) {
            m.write(i, i + 1);
            DUE.is("read(" + i + "), LINE kept", m.read(i), i + 1);
        }
        m.flush();
        for (int i : new int[] {0, 3, 4, 63, 64, 2044, 2047}) {
            DUE.is("read(" + i + "), LINE not kept", m.read(i), i + 1);
        }
        DUE.is("read(1)", m.read(1), 0);
        DUE.is("read(2046)", m.read(2046), 0);
    }

    private static void tagFirstAndLast() {
        TagMemory m = new TagMemory();
        int[] granules = {0, 31, 33, 1023};
        for (int g : granules) {
            m.put(g, 0, 0, true);
            DUE.is("tag(" + 2 * g + "), LINE kept", m.tag(2 * g), true);
            DUE.is("tag(" + (2 * g + 1) + "), LINE kept", m.tag(2 * g + 1), true);
        }
        m.flush();
        for (int g : granules) {
            DUE.is("tag(" + 2 * g + "), LINE not kept", m.tag(2 * g), true);
            DUE.is("tag(" + (2 * g + 1) + "), LINE not kept", m.tag(2 * g + 1), true);
        }
        for (int i : new int[] {2, 61, 64, 65, 68, 2045}) {
            DUE.is("tag(" + i + ")", m.tag(i), false);
        }
    }

    private static void writeAllKinds() {
        TagMemory m = new TagMemory();
        for (int i : new int[] {0, 2047}) {
            for (int w : VALUES) {
                m.write(i, w);
                DUE.is("write(" + i + ", " + w + "), read", m.read(i), w);
                m.flush();
                DUE.is("write(" + i + ", " + w + "), store", m.store(i), w);
            }
        }
        DUE.is("the next WORD", m.read(1), 0);
        DUE.is("the WORD before", m.read(2046), 0);
    }

    private static void writeTakesTheTag() {
        for (int i : new int[] {0, 1, 2, 3, 62, 63, 64, 2046, 2047}) {
            TagMemory m = threeTags(i / 2);
            m.write(i, 0);
            onlyTheMiddleTagIsGone(m, i / 2);
            m.write(i, 0);
            DUE.is("write(" + i + ") where no TAG is", m.tag(i), false);
        }
    }

    /** A GRANULE and the ones beside it have TAGS, their ROWS in THE STORE. */
    private static TagMemory threeTags(int g) {
        TagMemory m = new TagMemory();
        for (int n = Math.max(g - 1, 0); n <= Math.min(g + 1, 1023); n++) {
            m.put(n, 0, 0, true);
        }
        m.flush();
        return m;
    }

    private static void onlyTheMiddleTagIsGone(TagMemory m, int g) {
        for (int n = Math.max(g - 1, 0); n <= Math.min(g + 1, 1023); n++) {
            DUE.is("GRANULE " + g + " lost its TAG: tag(" + 2 * n + ")", m.tag(2 * n), n != g);
            DUE.is("GRANULE " + g + " lost its TAG: tag(" + (2 * n + 1) + ")", m.tag(2 * n + 1), n != g);
        }
    }

    private static void writeTellsWhatItWas() {
        TagMemory m = new TagMemory();
        int was = 0;
        for (int w : VALUES) {
            DUE.is("write(2047, " + w + "), LINE kept", m.write(2047, w), was);
            was = w;
        }
        for (int w : VALUES) {
            m.flush();
            DUE.is("write(2047, " + w + "), LINE not kept", m.write(2047, w), was);
            was = w;
        }
    }

    private static void partOfBytes() {
        for (int word : new int[] {0, -1, 0x12345678}) {
            for (int v : new int[] {0, -1, 0x89ABCDEF, 0x80, 0x8000, 0x100, 0x10000}) {
                for (int at = 0; at <= 3; at++) {
                    partDue(word, at, 1, v);
                }
                partDue(word, 0, 2, v);
                partDue(word, 2, 2, v);
            }
        }
    }

    private static void partDue(int word, int at, int n, int v) {
        TagMemory m = new TagMemory();
        m.put(511, 5, word, false);
        m.put(512, 6, 7, false);
        int want = 0;
        for (int b = 0; b < 4; b++) {
            boolean given = b >= at && b < at + n;
            want |= (given ? v >>> 8 * (b - at) & 255 : word >>> 8 * b & 255) << 8 * b;
        }
        m.part(1023, at, n, v);
        String call = "part(" + at + ", " + n + ", " + v + ") of " + word;
        DUE.is(call, m.read(1023), want);
        DUE.is(call + ": the WORD before", m.read(1022), 5);
        DUE.is(call + ": the WORD behind", m.read(1024), 6);
    }

    private static void partTakesTheTag() {
        for (int i : new int[] {0, 1, 2, 3, 62, 63, 64, 2046, 2047}) {
            TagMemory m = threeTags(i / 2);
            m.part(i, 3, 1, 0);
            onlyTheMiddleTagIsGone(m, i / 2);
        }
    }

    private static void partTellsTheWord() {
        TagMemory m = new TagMemory();
        DUE.is("part(0, 3, 1, -1)", m.part(0, 3, 1, -1), 0xFF000000);
        DUE.is("part(0, 0, 2, -1)", m.part(0, 0, 2, -1), 0xFF00FFFF);
        m.flush();
        DUE.is("part(0, 2, 2, 1), LINE not kept", m.part(0, 2, 2, 1), 0x0001FFFF);
        DUE.is("part(2047, 3, 1, 0x80)", m.part(2047, 3, 1, 0x80), Integer.MIN_VALUE);
        DUE.is("part(2047, 3, 1, 0x80), the same once more", m.part(2047, 3, 1, 0x80), Integer.MIN_VALUE);
    }

    private static void putFirstAndLast() {
        for (int g : new int[] {0, 1, 31, 32, 1022, 1023}) {
            TagMemory m = new TagMemory();
            m.put(g, Integer.MIN_VALUE, -1, false);
            for (int i = Math.max(2 * g - 2, 0); i < Math.min(2 * g + 4, 2048); i++) {
                int want = i == 2 * g ? Integer.MIN_VALUE : i == 2 * g + 1 ? -1 : 0;
                DUE.is("put(" + g + "), read(" + i + ")", m.read(i), want);
            }
        }
    }

    private static void putChangesAlways() {
        TagMemory m = new TagMemory();
        m.put(0, 0, 0, false);
        DUE.is("all 0: CHANGED", m.count(6), 1);
        DUE.is("all 0: drop(0)", m.drop(0), 1);
        m.put(0, 1, 2, true);
        m.flush();
        m.put(0, 1, 2, true);
        DUE.is("all as in THE STORE: drop(0)", m.drop(0), 1);
        DUE.is("all as in THE STORE: its ROW is CHANGED", m.count(8), 1);
    }

    private static void othersChangeAlways() {
        TagMemory m = new TagMemory();
        m.write(2047, 0);
        DUE.is("write: drop(15)", m.drop(15), 1);
        m.part(2047, 0, 1, 0);
        DUE.is("part: drop(15)", m.drop(15), 1);
        m.copy(1023, 1023);
        DUE.is("copy onto itself: drop(15)", m.drop(15), 1);
        m.copy(1023, 0);
        DUE.is("copy of the same: drop(15)", m.drop(15), 1);
        DUE.is("the LINE that was copied from: drop(0)", m.drop(0), 0);
    }

    private static void putTag() {
        TagMemory m = new TagMemory();
        for (int g : new int[] {0, 31, 32, 1023}) {
            m.put(g, 0, 0, true);
            DUE.is("put(" + g + ", true)", m.tag(2 * g), true);
            m.put(g, 0, 0, true);
            DUE.is("put(" + g + ", true) once more", m.tag(2 * g), true);
            m.flush();
            m.put(g, 0, 0, false);
            DUE.is("put(" + g + ", false)", m.tag(2 * g), false);
            m.flush();
            DUE.is("its ROW", m.store(2048 + g / 32), 0);
        }
    }

    private static void copyFirstAndLast() {
        for (int[] pair : new int[][] {{0, 1023}, {1023, 0}, {31, 32}, {32, 31}, {511, 512}}) {
            for (boolean tag : new boolean[] {true, false}) {
                TagMemory m = new TagMemory();
                m.put(pair[1], -1, Integer.MIN_VALUE, tag);
                m.put(pair[0], 3, 4, !tag);
                String call = "copy(" + pair[0] + ", " + pair[1] + ") with TAG " + tag;
                m.copy(pair[0], pair[1]);
                for (int g : pair) {
                    DUE.is(call + ": read(" + 2 * g + ")", m.read(2 * g), -1);
                    DUE.is(call + ": read(" + (2 * g + 1) + ")", m.read(2 * g + 1), Integer.MIN_VALUE);
                    DUE.is(call + ": tag(" + 2 * g + ")", m.tag(2 * g), tag);
                }
                DUE.is(call + ": TAGS in all", m.count(4), tag ? 2 : 0);
            }
        }
    }

    private static void copyOntoItself() {
        TagMemory m = new TagMemory();
        m.put(1023, 1, 2, true);
        m.flush();
        DUE.is("copy(1023, 1023)", m.copy(1023, 1023), true);
        DUE.is("read(2046)", m.read(2046), 1);
        DUE.is("read(2047)", m.read(2047), 2);
        DUE.is("tag(2047)", m.tag(2047), true);
        DUE.counted("the LINE came once, and is CHANGED", m, 2, 1, 2, 1, 1, 1, 1, 1, 0);
    }

    private static void copyWithinOneLine() {
        TagMemory m = new TagMemory();
        m.put(0, 1, 2, true);
        m.flush();
        DUE.is("copy(1, 0)", m.copy(1, 0), true);
        DUE.is("read(2)", m.read(2), 1);
        DUE.is("read(3)", m.read(3), 2);
        DUE.is("tag(0)", m.tag(0), true);
        DUE.is("tag(2)", m.tag(2), true);
        DUE.counted("the LINE came once", m, 2, 1, 2, 1, 2, 1, 1, 1, 0);
    }

    private static void copyWantsTheLineOfFFirst() {
        TagMemory m = new TagMemory();
        m.put(32, 5, 6, true);
        // g's LINE 0 is kept, and goes for f's LINE 16, which goes for LINE 0 again.
        m.put(0, 1, 2, false);
        DUE.counted("before", m, 2, 1, 2, 0);
        DUE.is("copy(0, 32)", m.copy(0, 32), true);
        DUE.is("kept(0)", m.kept(0), 0);
        DUE.counted("after", m, 4, 2, 2, 0, 2, 1, 1, 2, 2);
        DUE.is("g's WORD as it went before", m.store(0), 1);
        DUE.is("read(0)", m.read(0), 5);
        DUE.is("read(1)", m.read(1), 6);
        DUE.is("tag(0)", m.tag(0), true);
        // f's LINE 0 is kept and CHANGED: it does not come, and is written back for g's.
        DUE.is("copy(64, 0)", m.copy(64, 0), true);
        DUE.counted("f's LINE kept", m, 5, 3);
        DUE.is("store(0)", m.store(0), 5);
        DUE.is("read(128)", m.read(128), 5);
    }

    private static void copyWantsTheRowOfFFirst() {
        TagMemory m = new TagMemory();
        m.copy(130, 0);
        DUE.is("copy(130, 0): g's ROW came last", m.kept(16), 4);
        m = new TagMemory();
        m.copy(0, 130);
        DUE.is("copy(0, 130): g's ROW came last", m.kept(16), 0);
        DUE.is("f's LINE stays", m.kept(1), 65);
        DUE.counted("both ROWS came", m, 2, 0, 2, 0, 0, 2, 1, 1, 0);
    }

    private static void copyTellsTheTagOfF() {
        TagMemory m = new TagMemory();
        m.put(1023, 0, 0, true);
        DUE.is("copy(1023, 0): f has none, g has one", m.copy(1023, 0), false);
        m.put(0, 0, 0, true);
        DUE.is("copy(1023, 0): f has one, g has none", m.copy(1023, 0), true);
        DUE.is("copy(1, 0): within one LINE", m.copy(1, 0), true);
        m.write(0, 0);
        DUE.is("copy(1, 0): lost by a write", m.copy(1, 0), false);
    }

    /** f is the first GRANULE of its LINE, g the second of another LINE at the same PLACE, or the other way round. */
    private static void copyTellsTheTagOfFThatWent() {
        for (int[] pair : new int[][] {{1, 64}, {0, 65}, {991, 30}, {1023, 30}}) {
            for (boolean tag : new boolean[] {true, false}) {
                TagMemory m = new TagMemory();
                m.put(pair[0] ^ 1, 7, 8, !tag);
                m.put(pair[1], 5, 6, tag);
                String call = "copy(" + pair[0] + ", " + pair[1] + ") with TAG " + tag;
                DUE.is(call, m.copy(pair[0], pair[1]), tag);
                DUE.is(call + ": read", m.read(2 * pair[0]), 5);
                DUE.is(call + ": read, the next WORD", m.read(2 * pair[0] + 1), 6);
                DUE.is(call + ": tag", m.tag(2 * pair[0]), tag);
                DUE.is(call + ": TAG beside g", m.tag(2 * (pair[0] ^ 1)), !tag);
                DUE.is(call + ": WORD beside g", m.read(2 * (pair[0] ^ 1)), 7);
            }
        }
    }

    private static void dropChanged() {
        for (int p = 0; p < 16; p++) {
            TagMemory m = new TagMemory();
            m.write(4 * p + 3, 9);
            DUE.is("drop(" + p + ")", m.drop(p), 1);
            DUE.is("LINES written back", m.count(1), 1);
            DUE.is("store(" + (4 * p + 3) + ")", m.store(4 * p + 3), 9);
            DUE.is("kept(" + p + ")", m.kept(p), -1);
        }
    }

    private static void dropUnchanged() {
        TagMemory m = new TagMemory();
        for (int p = 0; p < 16; p++) {
            m.read(4 * p);
            DUE.is("drop(" + p + ")", m.drop(p), 0);
            DUE.is("kept(" + p + ")", m.kept(p), -1);
        }
        m.write(0, 1);
        m.drop(0);
        m.read(0);
        DUE.is("drop(0), CHANGED only before it came again", m.drop(0), 0);
        DUE.is("LINES written back", m.count(1), 1);
    }

    private static void dropNone() {
        TagMemory m = new TagMemory();
        for (int p = 0; p < 16; p++) {
            DUE.is("new: drop(" + p + ")", m.drop(p), -1);
        }
        DUE.is("nothing changed", Fields.of(m), Fields.of(new TagMemory()));
        m.write(60, 1);
        DUE.is("beside a LINE: drop(14)", m.drop(14), -1);
        DUE.is("beside a LINE: drop(0)", m.drop(0), -1);
        m.drop(15);
        DUE.is("dropped before: drop(15)", m.drop(15), -1);
        m.flush();
        DUE.is("flushed: drop(15)", m.drop(15), -1);
        DUE.is("LINES written back", m.count(1), 1);
    }

    private static void flushEmpty() {
        TagMemory m = new TagMemory();
        DUE.is("flush() of a new object", m.flush(), 0);
        DUE.is("nothing changed", Fields.of(m), Fields.of(new TagMemory()));
        m.write(0, 1);
        m.flush();
        DUE.is("flush() once more", m.flush(), 0);
        DUE.counted("flushed twice", m, 1, 1, 1, 1, 0, 0, 0, 0, 0);
    }

    private static void flushFull() {
        TagMemory m = new TagMemory();
        for (int p = 0; p < 16; p++) {
            int line = 16 * (p % 4) + p;
            m.put(2 * line, p, -p, true);
        }
        DUE.counted("full", m, 16, 0, 4, 0, 16, 16, 16, 4, 0);
        DUE.is("flush()", m.flush(), 16);
        DUE.counted("flushed", m, 16, 16, 4, 4, 16, 0, 0, 0, 0);
        for (int p = 0; p < 16; p++) {
            DUE.is("WORD of PLACE " + p, m.store(4 * (16 * (p % 4) + p)), p);
        }
        DUE.is("store(2048)", m.store(2048), 0x01010101);
        DUE.is("store(2051)", m.store(2051), 0x40404040);
    }

    /** The LINES of PLACES 0 and 15 are of ROWS that share a PLACE: the order tells which ROW comes. */
    private static void flushFromPlace0() {
        TagMemory m = new TagMemory();
        m.write(60, 1);
        m.write(256, 1);
        DUE.is("ROW 4 is kept, PLACE 0's LINE is of it", m.kept(16), 4);
        DUE.is("flush()", m.flush(), 2);
        DUE.counted("ROW 0 alone came", m, 2, 2, 3, 2);
        m = new TagMemory();
        m.write(256, 1);
        m.write(60, 1);
        DUE.is("ROW 0 is kept, PLACE 15's LINE is of it", m.kept(16), 0);
        DUE.is("flush()", m.flush(), 2);
        DUE.counted("ROW 4 came, then ROW 0", m, 2, 2, 4, 2);
    }

    private static void flushWritesChangedRows() {
        TagMemory m = new TagMemory();
        m.read(0);
        m.put(32, 0, 0, true);
        m.drop(0);
        m.put(65, 0, 0, true);
        m.read(64 * 3);
        m.flush();
        DUE.is("ROWS 1, CHANGED before, and 2, CHANGED by its LINE, not 0 and 3", m.count(3), 2);
        DUE.is("store(2048)", m.store(2048), 0);
        DUE.is("store(2049)", m.store(2049), 1);
        DUE.is("store(2050)", m.store(2050), 2);
        DUE.is("store(2051)", m.store(2051), 0);
    }

    private static void flushEmptiesAllPlaces() {
        TagMemory m = new TagMemory();
        for (int p = 0; p < 16; p++) {
            int line = 16 * (p % 4) + p;
            if (p % 4 < 2) {
                m.write(4 * line, 1);
            } else {
                m.read(4 * line);
            }
        }
        m.flush();
        for (int p = 0; p < 20; p++) {
            DUE.is("kept(" + p + ")", m.kept(p), -1);
        }
        m.read(0);
        DUE.is("ROW 0 comes again", m.count(2), 5);
        m.flush();
        DUE.is("ROWS not CHANGED alone, emptied too", m.count(7), 0);
    }

    private static void flushTellsLinesWrittenBack() {
        TagMemory m = new TagMemory();
        m.read(0);
        DUE.is("none CHANGED", m.flush(), 0);
        m.write(0, 1);
        m.drop(0);
        DUE.is("a CHANGED ROW alone", m.flush(), 0);
        DUE.is("ROWS written back", m.count(3), 1);
        m.write(0, 1);
        m.read(64);
        m.write(4, 1);
        m.write(60, 1);
        m.read(8);
        DUE.is("two CHANGED, two not; one went before", m.flush(), 2);
    }

    private static void storeAsItStands() {
        TagMemory m = new TagMemory();
        for (int i : new int[] {0, 2047}) {
            m.write(i, 7);
            DUE.is("store(" + i + "), LINE CHANGED", m.store(i), 0);
            m.drop(i == 0 ? 0 : 15);
            DUE.is("store(" + i + "), LINE gone", m.store(i), 7);
            m.write(i, 8);
            DUE.is("store(" + i + "), LINE CHANGED again", m.store(i), 7);
        }
        m.flush();
        DUE.is("store(0), flushed", m.store(0), 8);
        DUE.is("store(2047), flushed", m.store(2047), 8);
    }

    private static void storeOfRows() {
        TagMemory m = new TagMemory();
        m.put(0, 0, 0, true);
        m.put(1023, 0, 0, true);
        DUE.is("store(2048), TAG in a LINE", m.store(2048), 0);
        DUE.is("store(2079), TAG in a LINE", m.store(2079), 0);
        m.drop(0);
        m.drop(15);
        DUE.is("store(2048), TAG in a ROW", m.store(2048), 0);
        DUE.is("store(2079), TAG in a ROW", m.store(2079), 0);
        m.flush();
        DUE.is("store(2048)", m.store(2048), 1);
        DUE.is("store(2079)", m.store(2079), Integer.MIN_VALUE);
        DUE.is("store(2047), the last WORD", m.store(2047), 0);
    }

    private static void keptLines() {
        TagMemory m = new TagMemory();
        m.read(0);
        DUE.is("LINE 0 at PLACE 0", m.kept(0), 0);
        DUE.is("none at PLACE 15", m.kept(15), -1);
        m.read(2047);
        DUE.is("LINE 511 at PLACE 15", m.kept(15), 511);
        m.read(4 * 496);
        DUE.is("LINE 496 at PLACE 0", m.kept(0), 496);
        m.drop(0);
        DUE.is("none at PLACE 0", m.kept(0), -1);
    }

    private static void keptRows() {
        TagMemory m = new TagMemory();
        m.read(0);
        DUE.is("ROW 0 at 16", m.kept(16), 0);
        DUE.is("none at 17", m.kept(17), -1);
        DUE.is("none at 19", m.kept(19), -1);
        m.read(2047);
        DUE.is("ROW 31 at 19", m.kept(19), 31);
        m.read(64 * 28 + 4);
        DUE.is("ROW 28 at 16", m.kept(16), 28);
        m.drop(15);
        DUE.is("a ROW stays when its LINE goes", m.kept(19), 31);
        m.flush();
        DUE.is("none at 16", m.kept(16), -1);
        DUE.is("none at 19", m.kept(19), -1);
    }

    private static void countOfLinesThatCameAndWent() {
        TagMemory m = new TagMemory();
        DUE.counted("new", m, 0, 0);
        m.read(0);
        m.read(1);
        DUE.counted("one came", m, 1, 0);
        m.drop(0);
        DUE.counted("one went, not CHANGED", m, 1, 0);
        m.write(0, 1);
        m.read(64);
        DUE.counted("driven out", m, 3, 1);
        m.write(64, 1);
        m.drop(0);
        DUE.counted("dropped", m, 3, 2);
        m.write(0, 1);
        m.write(4, 1);
        m.flush();
        DUE.counted("flushed", m, 5, 4);
    }

    private static void countOfRowsThatCameAndWent() {
        TagMemory m = new TagMemory();
        m.write(0, 1);
        m.read(260);
        DUE.counted("driven out, not CHANGED", m, 2, 0, 2, 0);
        m.drop(0);
        DUE.counted("came for a LINE that goes", m, 2, 1, 3, 0);
        m.read(264);
        DUE.counted("driven out, CHANGED", m, 3, 1, 4, 1);
        m.write(64, 1);
        m.flush();
        DUE.counted("flushed: ROW 1 CHANGED, ROW 4 not", m, 4, 2, 5, 2);
    }

    private static void countOfTags() {
        TagMemory m = new TagMemory();
        DUE.is("none", m.count(4), 0);
        m.put(0, 0, 0, true);
        m.put(1023, 0, 0, true);
        DUE.is("in LINES", m.count(4), 2);
        m.drop(15);
        DUE.is("one in a ROW alone", m.count(4), 2);
        m.flush();
        DUE.is("in THE STORE alone", m.count(4), 2);
        m.write(0, 0);
        DUE.is("in THE STORE and its ROW, not in its LINE", m.count(4), 1);
        m.read(260);
        DUE.is("in THE STORE, not in its LINE, its ROW not kept", m.count(4), 1);
        m.drop(0);
        DUE.is("in THE STORE, not in its ROW", m.count(4), 1);
        m.put(1, 0, 0, true);
        m.read(260);
        m.read(256);
        DUE.is("driven out", m.count(4), 2);
        countIsAsTagTells(m);
    }

    /** tag brings LINES and may drive others out: the sum must stay what count(4) says. */
    private static void countIsAsTagTells(TagMemory m) {
        int told = 0;
        int before = m.count(4);
        for (int g : new int[] {0, 1, 2, 31, 32, 64, 128, 129, 130, 1022, 1023}) {
            told += m.tag(2 * g) ? 1 : 0;
        }
        DUE.is("as tag tells them", told, before);
        DUE.is("count(4) after all the tags", m.count(4), before);
    }

    private static void countOfLines() {
        TagMemory m = new TagMemory();
        for (int p = 0; p < 16; p++) {
            m.read(4 * p);
            DUE.is("LINES kept", m.count(5), p + 1);
        }
        DUE.is("CHANGED", m.count(6), 0);
        for (int p = 0; p < 16; p++) {
            m.write(4 * p, 0);
            DUE.is("CHANGED", m.count(6), p + 1);
        }
        m.drop(0);
        m.drop(15);
        DUE.is("two gone: LINES kept", m.count(5), 14);
        DUE.is("two gone: CHANGED", m.count(6), 14);
        m.flush();
        DUE.is("all gone: LINES kept", m.count(5), 0);
        DUE.is("all gone: CHANGED", m.count(6), 0);
    }

    private static void countOfRows() {
        TagMemory m = new TagMemory();
        for (int k = 0; k < 4; k++) {
            m.write(64 * k + 4 * k, 0);
            DUE.is("ROWS kept", m.count(7), k + 1);
        }
        DUE.is("CHANGED", m.count(8), 0);
        for (int k = 0; k < 4; k++) {
            m.drop(k);
            DUE.is("CHANGED", m.count(8), k + 1);
        }
        m.read(256);
        DUE.is("one driven out: ROWS kept", m.count(7), 4);
        DUE.is("one driven out: CHANGED", m.count(8), 3);
        m.flush();
        DUE.is("all gone: ROWS kept", m.count(7), 0);
        DUE.is("all gone: CHANGED", m.count(8), 0);
    }

    private static void checkIsAlwaysZero() {
        TagMemory m = new TagMemory();
        DUE.is("new", m.check(), 0);
        for (int n = 0; n < 60; n++) {
            int g = n * 37 % 1024;
            m.put(g, n, -n, n % 3 != 0);
            DUE.is("put " + n, m.check(), 0);
            m.copy(1023 - g, g);
            DUE.is("copy " + n, m.check(), 0);
            m.write(2 * g, n);
            m.read((2 * g + 256) % 2048);
            m.drop(n % 16);
            DUE.is("drop " + n, m.check(), 0);
        }
        m.flush();
        DUE.is("flush", m.check(), 0);
    }

    private static void checkAsksTheRow() {
        TagMemory m = new TagMemory();
        m.put(0, 1, 2, true);
        m.drop(0);
        m.read(0);
        DUE.is("a LINE as its CHANGED ROW, not as THE STORE's", m.check(), 0);
        m.flush();
        m.read(0);
        m.read(260);
        DUE.is("its ROW is not kept", m.kept(16), 4);
        DUE.is("a LINE as the ROW of THE STORE", m.check(), 0);
    }
}

import java.util.Arrays;

/** Each promise of the document by itself: ordinary inputs, the edges it names, wrong inputs. */
public final class PromisesTest {
    private static final Class<IndexOutOfBoundsException> INDEX = IndexOutOfBoundsException.class;
    private static final Class<IllegalArgumentException> ARGUMENT = IllegalArgumentException.class;
    private static final int[] FAR = {Integer.MIN_VALUE, -1, Integer.MAX_VALUE};

    private static final Due DUE = new Due();

    public static void main(String[] args) {
        newObject();
        read();
        tag();
        write();
        part();
        partRefuses();
        put();
        copy();
        copyWithinOnePlace();
        drop();
        flush();
        store();
        kept();
        rowsComeAndGo();
        lineComesBehindTheOneThatGoes();
        countOfTags();
        counts();
        check();
        refusedCallsChangeNothing();
        DUE.end();
    }

    private static int[] withFar(int... near) {
        int[] all = Arrays.copyOf(FAR, FAR.length + near.length);
        System.arraycopy(near, 0, all, FAR.length, near.length);
        return all;
    }

    private static void newObject() {
        TagMemory m = new TagMemory();
        for (int i = 0; i < 2080; i += 5) {
            DUE.is("new: store(" + i + ")", m.store(i), 0);
        }
        for (int p = 0; p < 20; p++) {
            DUE.is("new: kept(" + p + ")", m.kept(p), -1);
        }
        DUE.counted("new", m, 0, 0, 0, 0, 0, 0, 0, 0, 0);
        DUE.is("new: check()", m.check(), 0);
        DUE.is("new: flush()", m.flush(), 0);
        DUE.counted("new, flushed", m, 0, 0, 0, 0, 0, 0, 0, 0, 0);
    }

    private static void read() {
        TagMemory m = new TagMemory();
        m.write(0, 5);
        m.write(2047, -6);
        DUE.is("read(0)", m.read(0), 5);
        DUE.is("read(1)", m.read(1), 0);
        DUE.is("read(2047)", m.read(2047), -6);
        DUE.counted("kept LINES are read in place", m, 2, 0, 2, 0, 0, 2, 2, 2, 0);
        m.flush();
        DUE.is("read(2047) from THE STORE", m.read(2047), -6);
        DUE.is("kept(15)", m.kept(15), 511);
        DUE.is("kept(19)", m.kept(19), 31);
        DUE.counted("a LINE read is not CHANGED", m, 3, 2, 3, 2, 0, 1, 0, 1, 0);
        for (int i : withFar(2048, 2079)) {
            DUE.refuses("read(" + i + ")", INDEX, () -> m.read(i));
        }
    }

    private static void tag() {
        TagMemory m = new TagMemory();
        m.put(1, 0, 0, true);
        DUE.is("tag(0)", m.tag(0), false);
        DUE.is("tag(1)", m.tag(1), false);
        DUE.is("tag(2)", m.tag(2), true);
        DUE.is("tag(3)", m.tag(3), true);
        DUE.is("tag(4)", m.tag(4), false);
        m.put(1023, 0, 0, true);
        m.flush();
        DUE.is("tag(2047)", m.tag(2047), true);
        DUE.is("tag(2046)", m.tag(2046), true);
        DUE.is("tag(2045)", m.tag(2045), false);
        DUE.counted("tag wants the LINE and does not change it", m, 4, 2, 3, 2, 2, 1, 0, 1, 0);
        for (int i : withFar(2048)) {
            DUE.refuses("tag(" + i + ")", INDEX, () -> m.tag(i));
        }
    }

    private static void write() {
        TagMemory m = new TagMemory();
        m.put(6, 1, 2, true);
        m.put(7, 3, 4, true);
        DUE.is("write(13, 20)", m.write(13, 20), 2);
        DUE.is("write(13, 21)", m.write(13, 21), 20);
        DUE.is("read(12)", m.read(12), 1);
        DUE.is("tag(12)", m.tag(12), false);
        DUE.is("tag(14)", m.tag(14), true);
        DUE.is("write(14, 3)", m.write(14, 3), 3);
        DUE.is("tag(15)", m.tag(15), false);
        m.flush();
        DUE.is("write(2000, 0)", m.write(2000, 0), 0);
        DUE.is("a LINE written is CHANGED, also if all stays the same", m.count(6), 1);
        for (int i : withFar(2048)) {
            DUE.refuses("write(" + i + ", 1)", INDEX, () -> m.write(i, 1));
        }
    }

    private static void part() {
        TagMemory m = new TagMemory();
        m.put(0, 0x11223344, 0x55667788, true);
        m.put(1, 0x11223344, 0, true);
        DUE.is("part(0, 0, 1, 0xABCD)", m.part(0, 0, 1, 0xABCD), 0x112233CD);
        DUE.is("part(0, 1, 1, -1)", m.part(0, 1, 1, -1), 0x1122FFCD);
        DUE.is("part(0, 2, 1, 0)", m.part(0, 2, 1, 0), 0x1100FFCD);
        DUE.is("part(0, 3, 1, 0x80)", m.part(0, 3, 1, 0x80), 0x8000FFCD);
        DUE.is("read(0)", m.read(0), 0x8000FFCD);
        DUE.is("read(1)", m.read(1), 0x55667788);
        DUE.is("tag(1)", m.tag(1), false);
        DUE.is("tag(2)", m.tag(2), true);
        DUE.is("part(2, 0, 2, 0x12345678)", m.part(2, 0, 2, 0x12345678), 0x11225678);
        DUE.is("part(2, 2, 2, 0x1234FEDC)", m.part(2, 2, 2, 0x1234FEDC), 0xFEDC5678);
        DUE.is("tag(3)", m.tag(3), false);
        m.flush();
        DUE.is("store(2)", m.store(2), 0xFEDC5678);
        DUE.is("part(2047, 0, 1, 0)", m.part(2047, 0, 1, 0), 0);
        DUE.is("a LINE written in part is CHANGED, also if all stays the same", m.count(6), 1);
    }

    private static void partRefuses() {
        TagMemory m = new TagMemory();
        for (int i : withFar(2048)) {
            DUE.refuses("part(" + i + ", 0, 1, 1)", INDEX, () -> m.part(i, 0, 1, 1));
            DUE.refuses("i is looked at first: part(" + i + ", 9, 9, 1)", INDEX, () -> m.part(i, 9, 9, 1));
        }
        for (int n : withFar(0, 3, 4)) {
            DUE.refuses("part(0, 0, " + n + ", 1)", ARGUMENT, () -> m.part(0, 0, n, 1));
        }
        for (int at : withFar(4, -2, -4)) {
            DUE.refuses("part(0, " + at + ", 1, 1)", ARGUMENT, () -> m.part(0, at, 1, 1));
            DUE.refuses("part(0, " + at + ", 2, 1)", ARGUMENT, () -> m.part(0, at, 2, 1));
        }
        for (int at : new int[] {1, 3}) {
            DUE.refuses("part(0, " + at + ", 2, 1)", ARGUMENT, () -> m.part(0, at, 2, 1));
        }
        DUE.counted("part refused", m, 0, 0, 0, 0, 0, 0, 0, 0, 0);
    }

    private static void put() {
        TagMemory m = new TagMemory();
        m.put(5, 7, 8, true);
        DUE.is("read(10)", m.read(10), 7);
        DUE.is("read(11)", m.read(11), 8);
        DUE.is("read(9)", m.read(9), 0);
        DUE.is("tag(11)", m.tag(11), true);
        DUE.is("tag(9)", m.tag(9), false);
        m.put(5, 9, 10, false);
        DUE.is("tag(10)", m.tag(10), false);
        DUE.is("store(10) is written late", m.store(10), 0);
        m.put(1023, -1, -2, true);
        m.flush();
        DUE.is("store(10)", m.store(10), 9);
        DUE.is("store(2047)", m.store(2047), -2);
        DUE.is("store(2079)", m.store(2079), Integer.MIN_VALUE);
        m.put(0, 0, 0, false);
        DUE.is("put of the same leaves the LINE CHANGED", m.count(6), 1);
        for (int g : withFar(1024)) {
            DUE.refuses("put(" + g + ")", INDEX, () -> m.put(g, 1, 1, true));
        }
    }

    private static void copy() {
        TagMemory m = new TagMemory();
        m.put(3, 7, 8, true);
        DUE.is("copy(1023, 3)", m.copy(1023, 3), true);
        DUE.is("read(2046)", m.read(2046), 7);
        DUE.is("read(2047)", m.read(2047), 8);
        DUE.is("tag(2046)", m.tag(2046), true);
        DUE.is("tag(2045)", m.tag(2045), false);
        DUE.is("copy(3, 2)", m.copy(3, 2), false);
        DUE.is("tag(6)", m.tag(6), false);
        DUE.is("read(7)", m.read(7), 0);
        m.flush();
        DUE.is("copy(1023, 1023)", m.copy(1023, 1023), true);
        DUE.is("a copy onto itself leaves the LINE CHANGED", m.count(6), 1);
        DUE.is("copy(0, 1023)", m.copy(0, 1023), true);
        m.flush();
        DUE.is("copy(10, 0)", m.copy(10, 0), true);
        DUE.is("f's LINE stays unCHANGED", m.drop(0), 0);
        for (int wrong : withFar(1024)) {
            DUE.refuses("copy(" + wrong + ", 0)", INDEX, () -> m.copy(wrong, 0));
            DUE.refuses("copy(0, " + wrong + ")", INDEX, () -> m.copy(0, wrong));
        }
    }

    private static void copyWithinOnePlace() {
        TagMemory m = new TagMemory();
        m.put(64, 5, 6, true);
        // GRANULES 64 and 0 have LINES 32 and 0, both of PLACE 0: f's LINE goes for g's.
        DUE.is("copy(0, 64)", m.copy(0, 64), true);
        DUE.is("kept(0)", m.kept(0), 0);
        DUE.is("read(1)", m.read(1), 6);
        DUE.is("tag(0)", m.tag(0), true);
        DUE.is("store(129)", m.store(129), 6);
        DUE.counted("copy within one PLACE", m, 2, 1, 2, 0, 2, 1, 1, 2, 1);
        DUE.is("copy(64, 128)", m.copy(64, 128), false);
        DUE.is("kept(0) is g's LINE, wanted last", m.kept(0), 32);
        DUE.counted("f's LINE came between", m, 4, 2, 3, 1, 1, 1, 1, 2, 1);
    }

    private static void drop() {
        TagMemory m = new TagMemory();
        DUE.is("drop(3), empty", m.drop(3), -1);
        m.read(12);
        DUE.is("drop(3), not CHANGED", m.drop(3), 0);
        DUE.is("kept(3)", m.kept(3), -1);
        m.put(6, 1, 2, true);
        DUE.is("drop(3), CHANGED", m.drop(3), 1);
        DUE.is("drop(3), again", m.drop(3), -1);
        DUE.is("store(13)", m.store(13), 2);
        DUE.is("store(2048) is written later", m.store(2048), 0);
        DUE.is("kept(16)", m.kept(16), 0);
        DUE.counted("dropped", m, 2, 1, 1, 0, 1, 0, 0, 1, 1);
        m.read(2047);
        DUE.is("drop(15)", m.drop(15), 0);
        DUE.is("drop(0)", m.drop(0), -1);
        for (int p : withFar(16, 19)) {
            DUE.refuses("drop(" + p + ")", INDEX, () -> m.drop(p));
        }
    }

    private static void flush() {
        TagMemory m = new TagMemory();
        m.put(0, 1, 1, true);
        m.put(34, 2, 2, true);
        m.read(8);
        DUE.is("flush()", m.flush(), 2);
        DUE.is("store(0)", m.store(0), 1);
        DUE.is("store(2048)", m.store(2048), 1);
        DUE.is("store(2049)", m.store(2049), 4);
        for (int p = 0; p < 20; p++) {
            DUE.is("flushed: kept(" + p + ")", m.kept(p), -1);
        }
        DUE.counted("flushed", m, 3, 2, 2, 2, 2, 0, 0, 0, 0);
        DUE.is("flush() again", m.flush(), 0);
        DUE.counted("flushed again", m, 3, 2, 2, 2, 2, 0, 0, 0, 0);
        flushInOrder();
    }

    /** ROWS 0 and 4 share a PLACE, ROW 0 is kept: from PLACE 0 on both must come, else only ROW 4. */
    private static void flushInOrder() {
        TagMemory m = new TagMemory();
        m.put(128, 1, 1, true);
        m.put(3, 2, 2, true);
        DUE.counted("before the flush", m, 2, 0, 2, 0, 2, 2, 2, 1, 0);
        DUE.is("flush() in order", m.flush(), 2);
        DUE.counted("after the flush", m, 2, 2, 4, 2, 2, 0, 0, 0, 0);
        DUE.is("store(2048)", m.store(2048), 8);
        DUE.is("store(2052)", m.store(2052), 1);
    }

    private static void store() {
        TagMemory m = new TagMemory();
        m.write(2047, 9);
        DUE.is("store(2047), LINE kept", m.store(2047), 0);
        m.put(1023, 4, 5, true);
        m.drop(15);
        DUE.is("store(2046)", m.store(2046), 4);
        DUE.is("store(2047)", m.store(2047), 5);
        DUE.is("store(2079), ROW kept", m.store(2079), 0);
        m.flush();
        DUE.is("store(2079)", m.store(2079), Integer.MIN_VALUE);
        DUE.is("store(2078)", m.store(2078), 0);
        DUE.counted("store wants nothing", m, 1, 1, 1, 1, 1, 0, 0, 0, 0);
        for (int i : withFar(2080)) {
            DUE.refuses("store(" + i + ")", INDEX, () -> m.store(i));
        }
    }

    private static void kept() {
        TagMemory m = new TagMemory();
        m.read(4 * 17);
        DUE.is("kept(1)", m.kept(1), 17);
        DUE.is("kept(17)", m.kept(17), 1);
        DUE.is("kept(0)", m.kept(0), -1);
        m.read(4 * 511);
        DUE.is("kept(15)", m.kept(15), 511);
        DUE.is("kept(19)", m.kept(19), 31);
        m.read(4 * 495);
        DUE.is("kept(15), the next one", m.kept(15), 495);
        DUE.is("kept(18)", m.kept(18), 30);
        for (int p : withFar(20)) {
            DUE.refuses("kept(" + p + ")", INDEX, () -> m.kept(p));
        }
    }

    private static void rowsComeAndGo() {
        TagMemory m = new TagMemory();
        m.put(0, 1, 2, true);
        m.read(260);
        DUE.is("ROW 4 took ROW 0's PLACE", m.kept(16), 4);
        DUE.is("LINE 0 stays without its ROW", m.kept(0), 0);
        DUE.is("tag(0)", m.tag(0), true);
        DUE.counted("a kept LINE wants no ROW", m, 2, 0, 2, 0, 1, 2, 1, 1, 0);
        DUE.is("drop(0)", m.drop(0), 1);
        DUE.is("the ROW came for the LINE that went", m.kept(16), 0);
        DUE.counted("its ROW came and is CHANGED", m, 2, 1, 3, 0, 1, 1, 0, 1, 1);
        m.drop(1);
        DUE.is("a LINE not CHANGED fetches no ROW", m.kept(16), 0);
        m.read(260);
        DUE.is("the CHANGED ROW was written back", m.store(2048), 1);
        DUE.counted("ROW 0 written back", m, 3, 1, 4, 1, 1, 1, 0, 1, 0);
        m.put(130, 0, 0, false);
        m.drop(1);
        DUE.is("a ROW is CHANGED, also if its TAGS stay the same", m.count(8), 1);
    }

    /** The LINE that goes gets its ROW first, and the LINE that comes may drive that ROW out. */
    private static void lineComesBehindTheOneThatGoes() {
        TagMemory m = new TagMemory();
        m.put(1, 1, 2, true);
        m.read(260);
        m.read(256);
        DUE.is("kept(0)", m.kept(0), 64);
        DUE.is("kept(16)", m.kept(16), 4);
        DUE.is("store(2048)", m.store(2048), 2);
        DUE.counted("ROW 0 came and went", m, 3, 1, 4, 1, 1, 2, 0, 1, 0);
    }

    private static void countOfTags() {
        TagMemory m = new TagMemory();
        m.put(0, 0, 0, true);
        m.put(1, 0, 0, true);
        m.put(1023, 0, 0, true);
        DUE.is("TAGS in LINES", m.count(4), 3);
        m.drop(0);
        DUE.is("TAGS in LINES and ROWS", m.count(4), 3);
        m.write(1, 5);
        DUE.is("a LINE goes before its ROW", m.count(4), 2);
        m.read(260);
        DUE.is("TAGS in a LINE and THE STORE", m.count(4), 2);
        m.flush();
        DUE.is("TAGS in THE STORE", m.count(4), 2);
        m.write(2, 5);
        DUE.is("a LINE goes before THE STORE", m.count(4), 1);
        DUE.is("count wants nothing", m.count(5), 1);
    }

    private static void counts() {
        TagMemory m = new TagMemory();
        m.put(0, 1, 2, true);
        m.read(4);
        m.read(64);
        DUE.counted("counts", m, 3, 1, 2, 0, 1, 2, 0, 2, 1);
        for (int what : withFar(9)) {
            DUE.refuses("count(" + what + ")", ARGUMENT, () -> m.count(what));
        }
    }

    private static void check() {
        TagMemory m = new TagMemory();
        for (int g = 0; g < 1024; g += 7) {
            m.put(g, g, -g, g % 3 == 0);
            m.read((g * 37 + 11) % 2048);
            DUE.is("check() behind put(" + g + ")", m.check(), 0);
        }
        m.flush();
        DUE.is("check(), flushed", m.check(), 0);
    }

    private static void refusedCallsChangeNothing() {
        TagMemory m = new TagMemory();
        m.put(0, 1, 2, true);
        DUE.refuses("read(2048)", INDEX, () -> m.read(2048));
        DUE.refuses("tag(-64)", INDEX, () -> m.tag(-64));
        DUE.refuses("write(2048, 3)", INDEX, () -> m.write(2048, 3));
        DUE.refuses("part(64, 1, 2, 3)", ARGUMENT, () -> m.part(64, 1, 2, 3));
        DUE.refuses("put(1024, 3, 3, false)", INDEX, () -> m.put(1024, 3, 3, false));
        DUE.refuses("copy(1024, 32)", INDEX, () -> m.copy(1024, 32));
        DUE.refuses("copy(32, 1024)", INDEX, () -> m.copy(32, 1024));
        DUE.refuses("drop(16)", INDEX, () -> m.drop(16));
        DUE.is("kept(0)", m.kept(0), 0);
        DUE.is("read(0)", m.read(0), 1);
        DUE.is("tag(0)", m.tag(0), true);
        DUE.counted("refused", m, 1, 0, 1, 0, 1, 1, 1, 1, 0);
    }
}

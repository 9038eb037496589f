import java.util.ArrayList;
import java.util.Arrays;
import java.util.List;
import java.util.function.Consumer;

/**
 * Every sentence that refuses a call: what lies just inside is taken, what lies outside is refused
 * with the exception that the document names, and nothing of the object changes then.
 */
public final class RefusalsTest {
    private static final Class<IndexOutOfBoundsException> INDEX = IndexOutOfBoundsException.class;
    private static final Class<IllegalArgumentException> ARGUMENT = IllegalArgumentException.class;

    private static final Due DUE = new Due();

    public static void main(String[] args) {
        DUE.about("read: IndexOutOfBoundsException if there is none", () -> index(2048, TagMemory::read));
        DUE.about("tag: IndexOutOfBoundsException if there is none", () -> index(2048, TagMemory::tag));
        DUE.about("write: IndexOutOfBoundsException if there is none", () -> index(2048, (m, i) -> m.write(i, 7)));
        DUE.about("part: IndexOutOfBoundsException if there is no WORD i",
            () -> index(2048, (m, i) -> m.part(i, 2, 2, 7)));
        DUE.about("part: IllegalArgumentException if n is not 1 or 2", RefusalsTest::partOfWrongLength);
        DUE.about("part: or at not 0 to 3", RefusalsTest::partOutsideTheWord);
        DUE.about("part: and a multiple of n", RefusalsTest::partAcrossItsLength);
        DUE.about("part: (looked at behind i)", RefusalsTest::partLooksAtTheWordFirst);
        DUE.about("put: IndexOutOfBoundsException if g is not 0 to 1023",
            () -> index(1024, (m, g) -> m.put(g, 7, 8, true)));
        DUE.about("copy: IndexOutOfBoundsException if .. g is not 0 to 1023",
            () -> index(1024, (m, g) -> m.copy(g, 100)));
        DUE.about("copy: IndexOutOfBoundsException if f .. is not 0 to 1023",
            () -> index(1024, (m, f) -> m.copy(100, f)));
        DUE.about("copy: both are not 0 to 1023", () -> index(1024, (m, both) -> m.copy(both, both)));
        DUE.about("drop: IndexOutOfBoundsException if p is not 0 to 15", () -> index(16, TagMemory::drop));
        DUE.about("store: IndexOutOfBoundsException if i is not 0 to 2079", () -> index(2080, TagMemory::store));
        DUE.about("kept: IndexOutOfBoundsException if p is not 0 to 19", () -> index(20, TagMemory::kept));
        DUE.about("count: IllegalArgumentException for others", () -> outside(9, ARGUMENT, TagMemory::count));
        DUE.about("a refused call goes before a good one", RefusalsTest::goodCallsBehindRefusedOnes);
        DUE.end();
    }

    private interface IntCall {
        void make(TagMemory m, int argument);
    }

    private static void index(int size, IntCall call) {
        outside(size, INDEX, call);
    }

    private static void outside(int size, Class<? extends RuntimeException> want, IntCall call) {
        for (int argument : new int[] {0, 1, size / 2, size - 2, size - 1}) {
            // An exception here ends the test of the sentence, and is told.
            call.make(mixed(), argument);
        }
        for (int argument : wrongFor(size)) {
            refused("argument " + argument, want, m -> call.make(m, argument));
        }
    }

    /** Also those that a mask, a remainder or a wrap-around of the index would make good. */
    private static int[] wrongFor(int size) {
        return new int[] {-1, -2, -4, -64, -size, -size - 1, size, size + 1, 2 * size, 2 * size - 1, 1 << 16,
            1 << 30, Integer.MAX_VALUE - 1, Integer.MAX_VALUE, Integer.MIN_VALUE, Integer.MIN_VALUE + 1};
    }

    private static void partOfWrongLength() {
        for (int n : new int[] {0, 3, 4, 8, -1, -2, 1 << 16, Integer.MAX_VALUE, Integer.MIN_VALUE}) {
            for (int at = 0; at <= 3; at++) {
                refusedPart(64, at, n, ARGUMENT);
            }
        }
    }

    private static void partOutsideTheWord() {
        for (int at : new int[] {-1, -2, -4, 4, 5, 6, 8, 32, 1 << 29, Integer.MAX_VALUE, Integer.MIN_VALUE,
            Integer.MIN_VALUE + 2}) {
            refusedPart(64, at, 1, ARGUMENT);
            refusedPart(64, at, 2, ARGUMENT);
        }
    }

    private static void partAcrossItsLength() {
        refusedPart(64, 1, 2, ARGUMENT);
        refusedPart(64, 3, 2, ARGUMENT);
        refusedPart(0, 1, 2, ARGUMENT);
        refusedPart(2047, 3, 2, ARGUMENT);
        for (int at = 0; at <= 3; at++) {
            mixed().part(2047, at, 1, 7);
        }
        mixed().part(2047, 0, 2, 7);
        mixed().part(2047, 2, 2, 7);
    }

    private static void partLooksAtTheWordFirst() {
        for (int i : wrongFor(2048)) {
            refusedPart(i, 0, 0, INDEX);
            refusedPart(i, -1, 1, INDEX);
            refusedPart(i, 1, 2, INDEX);
            refusedPart(i, 9, 9, INDEX);
        }
    }

    private static void refusedPart(int i, int at, int n, Class<? extends RuntimeException> want) {
        refused("part(" + i + ", " + at + ", " + n + ", -1)", want, m -> m.part(i, at, n, -1));
    }

    /** Once on a new object, once on one whose PLACES are full, once on one with all kinds of PLACES. */
    private static void refused(String call, Class<? extends RuntimeException> want, Consumer<TagMemory> made) {
        for (TagMemory m : Arrays.asList(new TagMemory(), full(), mixed())) {
            String before = Fields.of(m);
            DUE.refuses(call, want, () -> made.accept(m));
            DUE.is("the object after the refused " + call, Fields.of(m), before);
        }
    }

    private static TagMemory full() {
        TagMemory m = new TagMemory();
        for (int n = 0; n < 16; n++) {
            m.put(2 * (33 * n % 512), n, -n, true);
        }
        return m;
    }

    /** Empty PLACES, CHANGED and unCHANGED LINES, CHANGED and unCHANGED ROWS, a LINE without its ROW. */
    private static TagMemory mixed() {
        TagMemory m = new TagMemory();
        m.put(40, 1, 2, true);
        m.drop(4);
        m.read(0);
        m.put(2, 3, 4, true);
        m.put(4, 5, 6, true);
        m.read(256 + 12);
        return m;
    }

    private static void goodCallsBehindRefusedOnes() {
        TagMemory plain = mixed();
        TagMemory tried = mixed();
        List<Consumer<TagMemory>> bad = List.of(m -> m.read(-1), m -> m.tag(2048), m -> m.write(2048, 1),
            m -> m.part(4, 1, 2, 1), m -> m.put(1024, 1, 1, true), m -> m.copy(2, 1024), m -> m.copy(1024, 2),
            m -> m.drop(16), m -> m.store(2080), m -> m.kept(20), m -> m.count(9));
        List<Consumer<TagMemory>> good = new ArrayList<>(List.of(m -> m.read(64), m -> m.tag(2047),
            m -> m.write(320, 1), m -> m.part(4, 2, 2, 1), m -> m.put(1023, 1, 1, true), m -> m.copy(2, 1022),
            m -> m.drop(15), TagMemory::flush));
        for (Consumer<TagMemory> call : good) {
            for (Consumer<TagMemory> wrong : bad) {
                boolean thrown = false;
                try {
                    wrong.accept(tried);
                } catch (IndexOutOfBoundsException | IllegalArgumentException e) {
                    thrown = true;
                }
                DUE.is("refused", thrown, true);
            }
            call.accept(plain);
            call.accept(tried);
            DUE.is("the object that also had refused calls", Fields.of(tried), Fields.of(plain));
        }
    }
}

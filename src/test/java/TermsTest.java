import java.util.function.Consumer;

/** The sentences under "What it is" and "Terms" that name an edge, each by itself. */
public final class TermsTest {
    private static final Due DUE = new Due();

    public static void main(String[] args) {
        DUE.about("An object is used for at most 512 calls", TermsTest::goodFor512Calls);
        DUE.about("THE STORE has 2048 WORDS (0 to 2047)", TermsTest::everyWordIsItsOwn);
        DUE.about("32 ROWS of 32 bits: bit b of ROW k is the TAG of GRANULE 32 k + b", TermsTest::everyTagHasItsBit);
        DUE.about("32 ROWS of 32 bits, full", TermsTest::fullRows);
        DUE.about("the TAG .. of WORDS 2 (32 k + b) and the one behind", TermsTest::tagOfTwoWords);
        DUE.about("all is 0 at first", TermsTest::allIsZeroAtFirst);
        DUE.about("A LINE n is of WORDS 4 n to 4 n + 3", TermsTest::lineOfFourWords);
        DUE.about("and their two TAGS", TermsTest::lineOfTwoTags);
        DUE.about("16 PLACES for LINES (LINE n at PLACE n mod 16)", TermsTest::placesOfLines);
        DUE.about("16 PLACES for LINES, full", TermsTest::placesOfLinesFull);
        DUE.about("4 for ROWS (ROW k at PLACE k mod 4)", TermsTest::placesOfRows);
        DUE.about("4 for ROWS, full", TermsTest::placesOfRowsFull);
        DUE.about("empty at first", TermsTest::emptyAtFirst);
        DUE.about("a LINE .. is CHANGED if it was written since it came", TermsTest::lineChangedSinceItCame);
        DUE.about("a ROW .. is CHANGED if it was written since it came", TermsTest::rowChangedSinceItCame);
        DUE.about("Whatever wants a WORD or TAG wants its LINE", TermsTest::callsThatWantALine);
        DUE.about("what asks for no WORD or TAG wants no LINE", TermsTest::callsThatWantNone);
        DUE.about("A LINE that is wanted and not kept comes", TermsTest::keptLineDoesNotCome);
        DUE.about("first the one at its PLACE goes", TermsTest::firstTheOneAtItsPlaceGoes);
        DUE.about("the one at its PLACE goes: none there", TermsTest::noneThereToGo);
        DUE.about("then its WORDS come from THE STORE", TermsTest::wordsComeFromTheStore);
        DUE.about("and, if its ROW is not kept, that", TermsTest::keptRowDoesNotCome);
        DUE.about("its TAGS are those of the ROW", TermsTest::tagsAreThoseOfTheRow);
        DUE.about("A LINE that goes is written back, if it is CHANGED", TermsTest::writtenBackIfChanged);
        DUE.about("its WORDS to THE STORE", TermsTest::wordsToTheStore);
        DUE.about("its TAGS to its ROW", TermsTest::tagsToTheRow);
        DUE.about("(which comes, if it is not kept", TermsTest::rowComesForTheLineThatGoes);
        DUE.about("and is CHANGED then)", TermsTest::rowIsChangedThen);
        DUE.about("the PLACE is empty", TermsTest::placeIsEmpty);
        DUE.about("A ROW that comes takes the PLACE of another one", TermsTest::rowTakesThePlace);
        DUE.about("which is written back to THE STORE if it is CHANGED", TermsTest::rowDrivenOut);
        DUE.end();
    }

    private static void goodFor512Calls() {
        for (int what = 0; what <= 3; what++) {
            TagMemory m = new TagMemory();
            // LINES 0 and 64 share a PLACE, and so do their ROWS 0 and 4: each call drives both out.
            for (int n = 0; n < 511; n++) {
                DUE.is("call " + n + " of write", m.write(256 * (n % 2), n + 1), n < 2 ? 0 : n - 1);
            }
            DUE.is("the 512th call, count(" + what + ")", m.count(what), what % 2 == 0 ? 511 : 510);
        }
        TagMemory m = new TagMemory();
        for (int g = 0; g < 511; g++) {
            m.put(g, g, g, true);
        }
        DUE.is("the 512th call, count(4)", m.count(4), 511);
    }

    private static void everyWordIsItsOwn() {
        for (int first = 0; first < 2048; first += 128) {
            TagMemory m = new TagMemory();
            for (int i = first; i < first + 128; i++) {
                DUE.is("write(" + i + ")", m.write(i, ~i), 0);
            }
            for (int i = first; i < first + 128; i++) {
                DUE.is("read(" + i + ")", m.read(i), ~i);
            }
            m.flush();
            for (int i = first; i < first + 128; i++) {
                DUE.is("store(" + i + ")", m.store(i), ~i);
            }
            DUE.is("store in front of " + first, m.store(first == 0 ? 2048 : first - 1), 0);
            DUE.is("store behind " + (first + 127), m.store(first + 128), 0);
        }
    }

    private static void everyTagHasItsBit() {
        for (int g = 0; g < 1024; g++) {
            TagMemory m = new TagMemory();
            m.put(g, 0, 0, true);
            m.flush();
            for (int k = 0; k < 32; k++) {
                DUE.is("put(" + g + "), store(" + (2048 + k) + ")", m.store(2048 + k), k == g / 32 ? 1 << g % 32 : 0);
            }
        }
    }

    private static void fullRows() {
        for (int k : new int[] {0, 3, 4, 31}) {
            TagMemory m = new TagMemory();
            for (int g = 32 * k; g < 32 * k + 32; g++) {
                m.put(g, 0, 0, true);
            }
            DUE.is("TAGS of ROW " + k, m.count(4), 32);
            m.flush();
            DUE.is("ROW " + k, m.store(2048 + k), -1);
            DUE.is("the WORD in front of ROW 0", m.store(2047), 0);
            m.put(32 * k + 31, 0, 0, false);
            DUE.is("TAGS of ROW " + k + ", one fewer", m.count(4), 31);
            m.flush();
            DUE.is("ROW " + k + ", one TAG fewer", m.store(2048 + k), Integer.MAX_VALUE);
        }
    }

    private static void tagOfTwoWords() {
        for (int g : new int[] {0, 1, 31, 32, 511, 512, 1022, 1023}) {
            TagMemory m = new TagMemory();
            m.put(g, 0, 0, true);
            for (int i = Math.max(2 * g - 2, 0); i < Math.min(2 * g + 4, 2048); i++) {
                DUE.is("put(" + g + "), tag(" + i + ")", m.tag(i), i == 2 * g || i == 2 * g + 1);
            }
        }
    }

    private static void allIsZeroAtFirst() {
        for (int first = 0; first < 2080; first += 160) {
            TagMemory m = new TagMemory();
            for (int i = first; i < first + 160; i++) {
                DUE.is("new: store(" + i + ")", m.store(i), 0);
                if (i < 2048) {
                    DUE.is("new: read(" + i + ")", m.read(i), 0);
                    DUE.is("new: tag(" + i + ")", m.tag(i), false);
                }
            }
        }
    }

    private static void lineOfFourWords() {
        for (int n = 0; n < 512; n++) {
            TagMemory m = new TagMemory();
            for (int i = 4 * n; i < 4 * n + 4; i++) {
                m.read(i);
                DUE.is("read(" + i + "), kept(" + n % 16 + ")", m.kept(n % 16), n);
            }
            DUE.is("LINES that came for four WORDS of LINE " + n, m.count(0), 1);
            m.read((4 * n + 4) % 2048);
            DUE.is("LINES that came for the next WORD", m.count(0), 2);
        }
    }

    private static void lineOfTwoTags() {
        for (int n : new int[] {0, 15, 16, 511}) {
            TagMemory m = new TagMemory();
            m.put(2 * n, 0, 0, true);
            m.put(2 * n + 1, 0, 0, true);
            m.write(4 * n, 0);
            DUE.is("the first TAG", m.tag(4 * n + 1), false);
            DUE.is("the second TAG", m.tag(4 * n + 2), true);
            m.put(2 * n, 0, 0, true);
            m.write(4 * n + 3, 0);
            DUE.is("the first TAG, once more", m.tag(4 * n + 1), true);
            DUE.is("the second TAG, once more", m.tag(4 * n + 2), false);
            DUE.is("one LINE has both", m.count(0), 1);
        }
    }

    private static void placesOfLines() {
        for (int n = 0; n < 512; n++) {
            TagMemory m = new TagMemory();
            m.read(4 * n);
            for (int p = 0; p < 16; p++) {
                DUE.is("LINE " + n + " wanted: kept(" + p + ")", m.kept(p), p == n % 16 ? n : -1);
            }
        }
    }

    private static void placesOfLinesFull() {
        TagMemory m = new TagMemory();
        for (int n = 0; n < 16; n++) {
            DUE.is("LINES kept before LINE " + n, m.count(5), n);
            m.write(4 * n, 100 + n);
        }
        DUE.is("all PLACES full", m.count(5), 16);
        DUE.is("all of them CHANGED", m.count(6), 16);
        DUE.is("none went", m.count(1), 0);
        m.read(4 * 16);
        DUE.is("still full", m.count(5), 16);
        DUE.is("LINE 16 at PLACE 0", m.kept(0), 16);
        DUE.is("LINE 0 alone went", m.count(1), 1);
        for (int p = 1; p < 16; p++) {
            DUE.is("kept(" + p + ")", m.kept(p), p);
        }
        m.read(4 * 31);
        DUE.is("LINE 31 at PLACE 15", m.kept(15), 31);
        DUE.is("LINE 15 went", m.store(60), 115);
    }

    private static void placesOfRows() {
        for (int k = 0; k < 32; k++) {
            TagMemory m = new TagMemory();
            m.read(64 * k);
            m.read(64 * k + 63);
            for (int p = 0; p < 4; p++) {
                DUE.is("ROW " + k + " wanted: kept(" + (16 + p) + ")", m.kept(16 + p), p == k % 4 ? k : -1);
            }
            DUE.is("ROWS that came", m.count(2), 1);
        }
    }

    private static void placesOfRowsFull() {
        TagMemory m = new TagMemory();
        for (int k = 0; k < 4; k++) {
            DUE.is("ROWS kept before ROW " + k, m.count(7), k);
            m.read(64 * k);
        }
        DUE.is("all PLACES full", m.count(7), 4);
        m.read(64 * 4);
        DUE.is("still full", m.count(7), 4);
        int[] due = {4, 1, 2, 3};
        for (int p = 0; p < 4; p++) {
            DUE.is("kept(" + (16 + p) + ")", m.kept(16 + p), due[p]);
        }
        m.read(64 * 7);
        DUE.is("ROW 7 at PLACE 3", m.kept(19), 7);
    }

    private static void emptyAtFirst() {
        TagMemory m = new TagMemory();
        for (int p = 0; p < 20; p++) {
            DUE.is("new: kept(" + p + ")", m.kept(p), -1);
        }
        for (int p = 0; p < 16; p++) {
            DUE.is("new: drop(" + p + ")", m.drop(p), -1);
        }
    }

    private static void lineChangedSinceItCame() {
        TagMemory m = new TagMemory();
        m.read(0);
        m.tag(0);
        DUE.is("read alone: CHANGED", m.count(6), 0);
        m.write(0, 1);
        DUE.is("written: CHANGED", m.count(6), 1);
        m.read(0);
        DUE.is("read after that: CHANGED", m.count(6), 1);
        m.drop(0);
        DUE.is("gone: CHANGED", m.count(6), 0);
        m.read(0);
        DUE.is("come again: CHANGED", m.count(6), 0);
        m.write(0, 2);
        m.read(64);
        DUE.is("another one came to the PLACE of a CHANGED one: CHANGED", m.count(6), 0);
        DUE.is("drop(0)", m.drop(0), 0);
    }

    private static void rowChangedSinceItCame() {
        TagMemory m = new TagMemory();
        m.put(0, 1, 1, true);
        DUE.is("only its LINE was written: CHANGED", m.count(8), 0);
        m.drop(0);
        DUE.is("written: CHANGED", m.count(8), 1);
        m.read(0);
        DUE.is("a LINE came from it: CHANGED", m.count(8), 1);
        m.read(256);
        DUE.is("another one came to the PLACE of a CHANGED one: CHANGED", m.count(8), 0);
        m.read(4);
        DUE.is("come again: CHANGED", m.count(8), 0);
        m.flush();
        DUE.is("written back once", m.count(3), 1);
    }

    private static void callsThatWantALine() {
        wants("read", m -> m.read(2047));
        wants("tag", m -> m.tag(2047));
        wants("write", m -> m.write(2047, 0));
        wants("part", m -> m.part(2047, 0, 1, 0));
        wants("put", m -> m.put(1023, 0, 0, false));
        wants("copy", m -> m.copy(1023, 1023));
    }

    private static void wants(String name, Consumer<TagMemory> call) {
        TagMemory m = new TagMemory();
        call.accept(m);
        DUE.is(name + ": the LINE is kept", m.kept(15), 511);
        DUE.is(name + ": the ROW is kept", m.kept(19), 31);
        DUE.is(name + ": LINES came", m.count(0), 1);
        DUE.is(name + ": ROWS came", m.count(2), 1);
    }

    private static void callsThatWantNone() {
        TagMemory m = new TagMemory();
        m.put(0, 1, 2, true);
        m.read(260);
        m.put(40, 3, 4, true);
        m.drop(4);
        String before = Fields.of(m);
        for (int i : new int[] {0, 1, 80, 260, 2047, 2048, 2052, 2079}) {
            m.store(i);
        }
        for (int p = 0; p < 20; p++) {
            m.kept(p);
        }
        for (int what = 0; what <= 8; what++) {
            m.count(what);
        }
        m.check();
        DUE.is("the object after store, kept, count and check", Fields.of(m), before);
    }

    private static void keptLineDoesNotCome() {
        TagMemory m = new TagMemory();
        m.write(4, 1);
        DUE.is("not kept: came", m.count(0), 1);
        m.read(7);
        m.tag(6);
        m.write(5, 1);
        m.part(4, 0, 1, 1);
        m.put(3, 1, 1, true);
        m.copy(2, 3);
        DUE.is("kept: came", m.count(0), 1);
        DUE.is("kept: went", m.count(1), 0);
        m.drop(1);
        m.read(4);
        DUE.is("no more kept: came", m.count(0), 2);
    }

    /** ROWS 0 and 4 share a PLACE; the LINE that comes is of the kept one, the LINE that goes is not. */
    private static void firstTheOneAtItsPlaceGoes() {
        TagMemory m = new TagMemory();
        m.put(1, 1, 2, true);
        m.read(260);
        DUE.counted("before", m, 2, 0, 2, 0, 1, 2, 1, 1, 0);
        m.read(256);
        DUE.is("LINE 64 at PLACE 0", m.kept(0), 64);
        DUE.is("its ROW came last", m.kept(16), 4);
        DUE.is("ROW 0 came before, and went", m.store(2048), 2);
        DUE.counted("after", m, 3, 1, 4, 1, 1, 2, 0, 1, 0);
    }

    private static void noneThereToGo() {
        TagMemory m = new TagMemory();
        m.read(64);
        DUE.counted("empty PLACE, never used", m, 1, 0, 1, 0, 0, 1, 0, 1, 0);
        m.write(64, 1);
        m.drop(0);
        m.read(0);
        DUE.counted("empty PLACE, used before", m, 2, 1, 2, 0, 0, 1, 0, 2, 1);
        DUE.is("WORD 0 has nothing of LINE 16", m.read(0), 0);
    }

    private static void wordsComeFromTheStore() {
        TagMemory m = new TagMemory();
        for (int i = 2044; i < 2048; i++) {
            m.write(i, i);
        }
        m.read(60);
        for (int i = 2044; i < 2048; i++) {
            DUE.is("read(" + i + ")", m.read(i), i);
            DUE.is("read(" + (i - 2044 + 60) + ")", m.read(i - 2044 + 60), 0);
        }
    }

    private static void keptRowDoesNotCome() {
        TagMemory m = new TagMemory();
        m.read(0);
        m.read(63);
        DUE.is("the first and the last LINE of a ROW: ROWS came", m.count(2), 1);
        m.read(64);
        DUE.is("the next LINE: ROWS came", m.count(2), 2);
        m.read(4);
        DUE.is("ROW 0 still kept: ROWS came", m.count(2), 2);
        m.read(256);
        m.read(8);
        DUE.is("ROW 0 driven out by ROW 4: ROWS came", m.count(2), 4);
    }

    private static void tagsAreThoseOfTheRow() {
        TagMemory m = new TagMemory();
        m.put(31, 1, 2, true);
        m.drop(15);
        DUE.is("THE STORE has no TAG yet", m.store(2048), 0);
        DUE.is("tag(62) from the ROW", m.tag(62), true);
        DUE.is("tag(61) from the ROW", m.tag(61), false);
        m.write(63, 0);
        m.drop(15);
        m.put(0, 1, 2, true);
        m.flush();
        DUE.is("THE STORE has GRANULE 0's TAG alone", m.store(2048), 1);
        DUE.is("tag(1) from THE STORE by its ROW", m.tag(1), true);
        DUE.is("tag(2) from THE STORE by its ROW", m.tag(2), false);
    }

    private static void writtenBackIfChanged() {
        TagMemory m = new TagMemory();
        m.read(0);
        m.read(64);
        DUE.is("not CHANGED: LINES written back", m.count(1), 0);
        m.read(320);
        m.read(0);
        DUE.is("not CHANGED, its ROW not kept: ROWS came", m.count(2), 3);
        m.write(0, 5);
        m.read(64);
        DUE.is("CHANGED: LINES written back", m.count(1), 1);
    }

    private static void wordsToTheStore() {
        TagMemory m = new TagMemory();
        m.put(1022, 1, 2, false);
        m.put(1023, 3, 4, false);
        m.put(2, 9, 9, false);
        m.drop(15);
        int[] due = {0, 1, 2, 3, 4, 0};
        for (int n = 0; n < due.length; n++) {
            DUE.is("store(" + (2043 + n) + ")", m.store(2043 + n), due[n]);
        }
        DUE.is("a LINE that stays is not written back", m.store(4), 0);
    }

    private static void tagsToTheRow() {
        TagMemory m = new TagMemory();
        for (int g = 28; g < 32; g++) {
            m.put(g, 0, 0, true);
        }
        m.flush();
        DUE.is("four TAGS", m.store(2048), 0xF0000000);
        m.write(60, 0);
        m.drop(15);
        DUE.is("THE STORE's ROW is written later", m.store(2048), 0xF0000000);
        m.flush();
        DUE.is("a TAG less, the LINE's other one and those of the next LINE as before", m.store(2048), 0xB0000000);
        m.put(28, 0, 0, false);
        m.put(30, 0, 0, true);
        m.flush();
        DUE.is("one TAG less and one more", m.store(2048), 0xE0000000);
    }

    private static void rowComesForTheLineThatGoes() {
        TagMemory m = new TagMemory();
        m.put(0, 1, 2, true);
        m.drop(0);
        DUE.is("kept: ROWS came", m.count(2), 1);
        m.put(1, 1, 2, true);
        m.read(260);
        DUE.is("ROW 4 is there", m.kept(16), 4);
        m.drop(0);
        DUE.is("ROW 0 came", m.kept(16), 0);
        DUE.is("not kept: ROWS came", m.count(2), 3);
        m.flush();
        DUE.is("both TAGS of two goings", m.store(2048), 3);
    }

    private static void rowIsChangedThen() {
        TagMemory m = new TagMemory();
        m.write(0, 1);
        m.drop(0);
        DUE.is("kept, and the same TAGS: CHANGED", m.count(8), 1);
        m.flush();
        DUE.is("written back", m.count(3), 1);
        m.write(0, 1);
        m.read(260);
        m.drop(0);
        DUE.is("it came for the LINE that goes: CHANGED", m.count(8), 1);
    }

    private static void placeIsEmpty() {
        for (int n : new int[] {0, 15, 16, 511}) {
            TagMemory m = new TagMemory();
            m.read(4 * n);
            m.drop(n % 16);
            DUE.is("LINE " + n + " not CHANGED: kept", m.kept(n % 16), -1);
            m.write(4 * n, 1);
            m.drop(n % 16);
            DUE.is("LINE " + n + " CHANGED: kept", m.kept(n % 16), -1);
            DUE.is("LINES kept", m.count(5), 0);
            DUE.is("the ROW stays", m.kept(16 + n / 16 % 4), n / 16);
        }
    }

    private static void rowTakesThePlace() {
        TagMemory m = new TagMemory();
        m.read(64 * 3);
        m.read(64 * 31 + 4);
        DUE.is("ROW 31 in ROW 3's PLACE", m.kept(19), 31);
        DUE.is("ROWS kept", m.count(7), 1);
        DUE.is("the LINE of ROW 3 stays", m.kept(0), 48);
        m.tag(64 * 3);
        DUE.is("and needs no ROW", m.kept(19), 31);
    }

    private static void rowDrivenOut() {
        TagMemory m = new TagMemory();
        m.read(64);
        m.read(64 * 5 + 4);
        DUE.is("empty PLACE, then a ROW not CHANGED: ROWS written back", m.count(3), 0);
        m.put(160, 0, 0, true);
        m.put(161, 0, 0, true);
        m.drop(0);
        DUE.is("a ROW CHANGED and kept: in THE STORE", m.store(2053), 0);
        m.read(64 + 8);
        DUE.is("a ROW CHANGED and driven out: in THE STORE", m.store(2053), 3);
        DUE.is("ROWS written back", m.count(3), 1);
        m.read(64 * 5 + 12);
        DUE.is("a ROW not CHANGED driven out: ROWS written back", m.count(3), 1);
        DUE.is("ROWS came", m.count(2), 4);
    }
}

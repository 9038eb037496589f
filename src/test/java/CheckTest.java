import java.lang.reflect.Array;
import java.lang.reflect.Field;

/**
 * check tells what is wrong in the caches. No run of calls makes anything wrong, so this test
 * reaches past the face and spoils the fields; it follows the class if the fields do.
 */
public final class CheckTest {
    private static final Due DUE = new Due();

    public static void main(String[] args) throws ReflectiveOperationException {
        due("a WORD of an unCHANGED LINE", 1, "lineWords", 3, 77);
        due("a WORD of a CHANGED LINE", 0, "lineWords", 4, 77);
        due("a WORD of an empty PLACE", 0, "lineWords", 8, 77);
        due("a TAG of an unCHANGED LINE", 1, "lineTags", 0, 2);
        due("a TAG of a CHANGED LINE", 0, "lineTags", 1, 2);
        due("an unCHANGED LINE at another PLACE", 1, "lineAt", 0, 2);
        due("a CHANGED LINE at another PLACE", 1, "lineAt", 1, 2);
        due("a TAG of an unCHANGED ROW, of no LINE kept", 1, "rowTags", 0, 1 << 30);
        due("a TAG of an unCHANGED ROW, of an unCHANGED LINE too", 2, "rowTags", 0, 1);
        due("a TAG of a CHANGED ROW", 0, "rowTags", 1, 1 << 30);
        due("an unCHANGED ROW at another PLACE", 1, "rowAt", 0, 5);
        due("a CHANGED ROW at another PLACE", 1, "rowAt", 1, 4);
        due("the ROW of THE STORE behind an unCHANGED ROW", 1, "stored", 2048, 1 << 30);
        due("a WORD of THE STORE behind an unCHANGED LINE", 1, "stored", 0, 5);
        due("a WORD of THE STORE behind a CHANGED LINE", 0, "stored", 5, 5);
        due("the ROW of THE STORE behind an unCHANGED LINE whose ROW is not kept", 1, "stored", 2050, 1 << 10);
        due("a TAG of an unCHANGED LINE whose ROW is not kept", 1, "lineTags", 5, 2);
        DUE.end();
    }

    /**
     * LINE 0 unCHANGED at PLACE 0, LINE 1 CHANGED at PLACE 1; ROW 0 unCHANGED, ROW 1 CHANGED;
     * LINE 37 unCHANGED at PLACE 5, without its ROW 2, that ROW 6 has driven out.
     */
    private static TagMemory mixed() {
        TagMemory m = new TagMemory();
        m.put(38, 1, 2, true);
        m.drop(3);
        m.read(0);
        m.put(2, 3, 4, true);
        m.read(4 * 37);
        m.read(4 * 102);
        return m;
    }

    private static void due(String what, int want, String field, int at, int value)
            throws ReflectiveOperationException {
        TagMemory m = mixed();
        DUE.is("check() before: " + what, m.check(), 0);
        Field array = TagMemory.class.getDeclaredField(field);
        array.setAccessible(true);
        Array.setInt(array.get(m), at, value);
        DUE.is("check(), spoilt: " + what, m.check(), want);
    }
}

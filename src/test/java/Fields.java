import java.lang.reflect.Array;
import java.lang.reflect.Field;
import java.lang.reflect.Modifier;

/**
 * All that an object holds, as one text. The face can't show whether nothing changed: to ask for
 * all words and tags would take more calls than an object is good for, and would bring lines.
 */
final class Fields {
    private Fields() {
    }

    static String of(TagMemory m) {
        StringBuilder all = new StringBuilder();
        for (Field field : TagMemory.class.getDeclaredFields()) {
            if (!Modifier.isStatic(field.getModifiers())) {
                all.append(field.getName()).append('=');
                append(all, valueOf(field, m));
                all.append("; ");
            }
        }
        return all.toString();
    }

    private static Object valueOf(Field field, TagMemory m) {
        try {
            field.setAccessible(true);
            return field.get(m);
        } catch (IllegalAccessException e) {
            throw new IllegalStateException(e);
        }
    }

    private static void append(StringBuilder all, Object value) {
        if (!value.getClass().isArray()) {
            all.append(value);
            return;
        }
        for (int n = 0; n < Array.getLength(value); n++) {
            append(all, Array.get(value, n));
            all.append(' ');
        }
    }
}

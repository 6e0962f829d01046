import java.lang.reflect.Array;
import java.lang.reflect.Field;
import java.lang.reflect.Modifier;

/**
 * Copies objects, and sets what no calls lead to, or only thousands of millions of them. How the state is held is free,
 * so no field is called by its name here.
 */
final class Inside {
    private Inside() {
    }

    /** The arguments are those that x was made with. */
    static EpochReclaim copyOf(EpochReclaim x, int cells, int threads, int gap) {
        EpochReclaim copy = new EpochReclaim(cells, threads, gap);
        try {
            for (Field field : EpochReclaim.class.getDeclaredFields()) {
                if (!Modifier.isStatic(field.getModifiers())) {
                    field.setAccessible(true);
                    copyField(field, x, copy);
                }
            }
        } catch (IllegalAccessException refused) {
            throw new IllegalStateException(refused);
        }
        return copy;
    }

    private static void copyField(Field field, EpochReclaim x, EpochReclaim copy) throws IllegalAccessException {
        Object held = field.get(x);
        if (field.getType().isArray()) {
            System.arraycopy(held, 0, field.get(copy), 0, Array.getLength(held));
        } else if (!Modifier.isFinal(field.getModifiers())) {
            field.set(copy, held);
        }
    }

    /** Answers false, with x unchanged, if no int field alone stands behind the counter. */
    static boolean setCounter(EpochReclaim x, int what, int value) {
        try {
            for (Field field : EpochReclaim.class.getDeclaredFields()) {
                int modifiers = field.getModifiers();
                if (field.getType() == int.class && !Modifier.isStatic(modifiers) && !Modifier.isFinal(modifiers)) {
                    field.setAccessible(true);
                    int before = field.getInt(x);
                    field.setInt(x, value);
                    if (x.counter(what) == value) {
                        return true;
                    }
                    field.setInt(x, before);
                }
            }
        } catch (IllegalAccessException refused) {
            throw new IllegalStateException(refused);
        }
        return false;
    }

    /** Answers false, with x unchanged, if no element t of an int array alone stands behind the phase. */
    static boolean setPhase(EpochReclaim x, int t, int phase) {
        try {
            for (Field field : EpochReclaim.class.getDeclaredFields()) {
                if (field.getType() == int[].class && !Modifier.isStatic(field.getModifiers())) {
                    field.setAccessible(true);
                    int[] held = (int[]) field.get(x);
                    if (t < held.length && setIfPhase(x, t, held, phase)) {
                        return true;
                    }
                }
            }
        } catch (IllegalAccessException refused) {
            throw new IllegalStateException(refused);
        }
        return false;
    }

    private static boolean setIfPhase(EpochReclaim x, int t, int[] held, int phase) {
        int before = held[t];
        held[t] = phase;
        if (x.phase(t) == phase) {
            return true;
        }
        held[t] = before;
        return false;
    }
}

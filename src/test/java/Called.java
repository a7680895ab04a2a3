import java.lang.reflect.InvocationTargetException;

/** Calls by their names. */
final class Called {
    private Called() {
    }

    /** What a call answers, as a text: throws.X if it throws an X. */
    static String answer(Object on, String name, Object... arguments) {
        Class<?>[] types = new Class<?>[arguments.length];
        for (int i = 0; i < types.length; i++) {
            Object argument = arguments[i];
            types[i] = argument instanceof Boolean ? boolean.class : argument instanceof Long ? long.class : int.class;
        }
        try {
            return String.valueOf(on.getClass().getMethod(name, types).invoke(on, arguments));
        } catch (InvocationTargetException e) {
            return "throws." + e.getCause().getClass().getSimpleName();
        } catch (ReflectiveOperationException e) {
            return "no such call";
        }
    }
}

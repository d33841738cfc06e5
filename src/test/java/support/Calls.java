import java.lang.reflect.Method;

/** Calls of an object of the document's face by their names, so that a call can be both made and told. */
final class Calls {
    private Calls() {
    }

    static long make(Object on, String name, int... numbers) {
        Class<?>[] types = new Class<?>[numbers.length];
        Object[] values = new Object[numbers.length];
        for (int i = 0; i < numbers.length; i++) {
            types[i] = int.class;
            values[i] = numbers[i];
        }
        try {
            Method method = on.getClass().getMethod(name, types);
            return ((Number) method.invoke(on, values)).longValue();
        } catch (ReflectiveOperationException failed) {
            throw new IllegalStateException(told(name, numbers), failed);
        }
    }

    static String told(String name, int... numbers) {
        StringBuilder told = new StringBuilder(name).append('(');
        for (int i = 0; i < numbers.length; i++) {
            told.append(i == 0 ? "" : ", ").append(numbers[i]);
        }
        return told.append(')').toString();
    }
}

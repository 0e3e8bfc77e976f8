import java.lang.reflect.Method;

/** Calls written as text, "column 0 3, aim, run 2000", made on AimFronts or on the plain model. */
final class Script {
    private Script() {
    }

    static AimFronts made(String calls) {
        return played(new AimFronts(), calls);
    }

    /** What makes a state is never refused: otherwise the state is not the one that is meant. */
    static <T> T played(T target, String calls) {
        for (String call : calls.split(",")) {
            if (!call.isBlank() && isRefusal(answer(target, call))) {
                throw new IllegalArgumentException(call + " is refused in: " + calls);
            }
        }
        return target;
    }

    static boolean isRefusal(long answer) {
        return answer == AimFronts.OUTSIDE || answer == AimFronts.STATE || answer == AimFronts.ROOM;
    }

    static long answer(Object target, String call) {
        String[] words = call.trim().split(" +");
        int[] numbers = new int[words.length - 1];
        for (int i = 0; i < numbers.length; i++) {
            numbers[i] = Integer.parseInt(words[i + 1]);
        }
        return answer(target, words[0], numbers);
    }

    static long answer(Object target, String name, int... numbers) {
        Class<?>[] types = new Class<?>[numbers.length];
        Object[] values = new Object[numbers.length];
        for (int i = 0; i < numbers.length; i++) {
            types[i] = int.class;
            values[i] = numbers[i];
        }
        try {
            Method method = target.getClass().getDeclaredMethod(name, types);
            return ((Number) method.invoke(target, values)).longValue();
        } catch (ReflectiveOperationException e) {
            throw new IllegalStateException(name + " with " + numbers.length + " numbers", e);
        }
    }

    /** The same call several times over. */
    static String times(int count, String call) {
        return (call + ", ").repeat(count);
    }
}

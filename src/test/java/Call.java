import java.lang.reflect.InvocationTargetException;
import java.lang.reflect.Method;

/**
 * One call told as text, "put 0 5 1 1 0 7", and the answer that is due, " = 0", where there is one.
 * MIN and MAX stand for the least and the greatest number that the argument can be; a boolean counts 1 or 0.
 */
final class Call {
    final String text;
    private final Method method;
    private final Object[] args;
    private final Long due;

    private Call(String text, Method method, Object[] args, Long due) {
        this.text = text;
        this.method = method;
        this.args = args;
        this.due = due;
    }

    static Call of(String text) {
        return of(CurveShelf.class, text);
    }

    static Call of(Class<?> type, String text) {
        String[] sides = text.split(" = ");
        String[] words = sides[0].split(" ");
        Method method = named(type, words[0]);
        Class<?>[] types = method.getParameterTypes();
        if (types.length != words.length - 1) {
            throw new IllegalArgumentException(text + ": " + types.length + " arguments are due");
        }
        Object[] args = new Object[types.length];
        for (int i = 0; i < args.length; i++) {
            args[i] = types[i] == int.class ? (Object) wholeOf(words[i + 1]) : (Object) longOf(words[i + 1]);
        }
        return new Call(sides[0], method, args, sides.length > 1 ? Long.valueOf(sides[1]) : null);
    }

    private static Method named(Class<?> type, String name) {
        for (Method m : type.getDeclaredMethods()) {
            if (m.getName().equals(name)) {
                m.setAccessible(true);
                return m;
            }
        }
        throw new IllegalArgumentException("no method " + name);
    }

    private static int wholeOf(String word) {
        return word.equals("MIN") ? Integer.MIN_VALUE : word.equals("MAX") ? Integer.MAX_VALUE : Integer.parseInt(word);
    }

    private static long longOf(String word) {
        return word.equals("MIN") ? Long.MIN_VALUE : word.equals("MAX") ? Long.MAX_VALUE : Long.parseLong(word);
    }

    long answerOf(Object target) {
        try {
            Object answer = method.invoke(target, args);
            if (answer instanceof Boolean) {
                return (Boolean) answer ? 1 : 0;
            }
            return answer == null ? 0 : ((Number) answer).longValue();
        } catch (InvocationTargetException e) {
            throw new IllegalStateException(text + " throws", e.getCause());
        } catch (IllegalAccessException e) {
            throw new IllegalStateException(text, e);
        }
    }

    /** Makes the call; if an answer is due, it must be that. */
    void on(CurveShelf x, String where) {
        long got = answerOf(x);
        if (due != null) {
            Due.is(where + ": " + text, got, due);
        }
    }

    boolean tellsAnswer() {
        return due != null;
    }
}

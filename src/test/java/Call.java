import java.lang.reflect.InvocationTargetException;
import java.lang.reflect.Method;
import java.util.Map;
import java.util.TreeMap;

/** A call of TapLedger with its arguments, so that a test can print what it asked. */
record Call(String name, int... args) {
    private static final Map<String, Method> METHODS = new TreeMap<>();

    static {
        for (Method method : TapLedger.class.getMethods()) {
            if (method.getDeclaringClass() == TapLedger.class) {
                METHODS.put(method.getName(), method);
            }
        }
    }

    /** The answer; an exception is none that the document knows, and ends the test. */
    int on(TapLedger ledger) {
        Method method = METHODS.get(name);
        if (method == null || method.getParameterCount() != args.length) {
            throw new IllegalArgumentException("no such call: " + this);
        }
        Object[] boxed = new Object[args.length];
        for (int i = 0; i < args.length; i++) {
            boxed[i] = args[i];
        }
        try {
            return (Integer) method.invoke(ledger, boxed);
        } catch (InvocationTargetException e) {
            throw new IllegalStateException(this + " threw", e.getCause());
        } catch (IllegalAccessException e) {
            throw new IllegalStateException(this + " is not public", e);
        }
    }

    @Override
    public String toString() {
        StringBuilder text = new StringBuilder(name).append('(');
        for (int i = 0; i < args.length; i++) {
            text.append(i == 0 ? "" : ", ").append(args[i]);
        }
        return text.append(')').toString();
    }
}

import java.lang.reflect.Method;
import java.lang.reflect.Modifier;
import java.util.Arrays;
import java.util.Comparator;

/** Counts the answers of a test that are not the ones that are due. */
final class Due {
    private int asked;
    private int wrong;

    void is(String call, long got, long want) {
        asked++;
        if (got == want) return;
        wrong++;
        System.out.println(call + " answered " + got + ", due is " + want);
    }

    /** The last call of a test's main method. */
    void end() {
        System.out.println(asked + " answers, " + wrong + " not as due");
        if (wrong != 0 || asked == 0) System.exit(1);
    }

    /** Calls each static method of a test that takes nothing and is not private, so that none is forgotten in a list. */
    static void all(Class<?> test) throws ReflectiveOperationException {
        Method[] methods = test.getDeclaredMethods();
        Arrays.sort(methods, Comparator.comparing(Method::getName));
        for (Method m : methods) {
            boolean called = Modifier.isStatic(m.getModifiers()) && !Modifier.isPrivate(m.getModifiers());
            if (called && m.getParameterCount() == 0) m.invoke(null);
        }
    }

    /** Feeds a text letter by letter and has it told. */
    static int tell(CandleIsADebt candle, String text) {
        for (int i = 0; i < text.length(); i++) candle.feed(text.charAt(i));
        return candle.village();
    }

    /** A new object with a village of any length, which is told a statement at a time. */
    static CandleIsADebt village(String text) {
        CandleIsADebt candle = new CandleIsADebt();
        for (String statement : text.split(";")) {
            if (tell(candle, statement.trim() + ";") != 1) throw new IllegalStateException(statement);
        }
        return candle;
    }
}

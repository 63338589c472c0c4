import java.lang.reflect.Constructor;
import java.lang.reflect.Field;
import java.lang.reflect.Method;
import java.lang.reflect.Modifier;
import java.util.ArrayList;
import java.util.Arrays;
import java.util.List;

/** The public face is the document's: nothing less, nothing more. */
public final class FaceTest {
    private static final String[] FACE = {
        "int feed(1)", "int village(0)", "int houseOf(2)", "int walkerOf(2)", "int age(2)", "int house(3)",
        "int walker(3)", "int lights(1)", "int goals(2)", "int visits(2)", "int trades(3)", "int evenings(1)",
        "int back(0)", "int walkerIn(3)", "int prices(1)", "int owed(2)", "int home(1)", "int richest(1)",
        "int way(3)", "int payAll(2)", "int clear(2)", "int burn(2)", "int shut(1)", "int trade(2)",
        "int whoWent(1)", "int spread(1)", "int whatKind(3)", "int two(3)", "long mist(5)", "int oldest(1)",
        "long mean(1)", "int forgiven(0)", "int nearest(1)", "int allSeen(1)", "int gaps(0)", "int blind(0)",
        "int moved(3)", "int street(1)", "int row(1)", "int judge(0)", "int empties(0)", "int lots(3)",
        "int image(0)", "int restore(0)", "int count(1)"};

    public static void main(String[] args) {
        Due due = new Due();
        List<String> wanted = new ArrayList<>(Arrays.asList(FACE));
        List<String> hidden = new ArrayList<>();
        for (Method m : CandleIsADebt.class.getDeclaredMethods()) {
            if (Modifier.isPrivate(m.getModifiers())) {
                hidden.add(m.getName());
                continue;
            }
            String name = m.getReturnType() + " " + m.getName() + "(" + m.getParameterCount() + ")";
            due.is("public instance method " + name, m.getModifiers(), Modifier.PUBLIC);
            due.is("in the document " + name, wanted.remove(name) ? 1 : 0, 1);
            for (Class<?> type : m.getParameterTypes()) due.is("int taken by " + name, type == int.class ? 1 : 0, 1);
        }
        due.is("methods missing " + wanted, wanted.size(), 0);
        for (String face : FACE) {
            String name = face.substring(face.indexOf(' ') + 1, face.indexOf('('));
            due.is("private ones named " + name, hidden.contains(name) ? 1 : 0, 0);
        }
        for (Field f : CandleIsADebt.class.getDeclaredFields()) {
            due.is("private field " + f.getName(), Modifier.isPrivate(f.getModifiers()) ? 1 : 0, 1);
        }
        Constructor<?>[] made = CandleIsADebt.class.getDeclaredConstructors();
        due.is("constructors", made.length, 1);
        due.is("takings of the constructor", made[0].getParameterCount(), 0);
        due.is("public constructor", made[0].getModifiers(), Modifier.PUBLIC);
        due.is("public final class", CandleIsADebt.class.getModifiers(), Modifier.PUBLIC | Modifier.FINAL);
        due.end();
    }
}

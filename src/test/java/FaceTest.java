import java.lang.reflect.Constructor;
import java.lang.reflect.Field;
import java.lang.reflect.Method;
import java.lang.reflect.Modifier;
import java.util.Arrays;
import java.util.List;
import java.util.TreeSet;

/** "The public face" as the document tells it, and no other member that can be seen. */
public final class FaceTest {
    private static final Checks c = new Checks();
    private static final List<Class<?>> CONSTANTS = Arrays.asList(int.class, long.class, boolean.class, char.class, String.class,
        int[].class, long[].class, char[].class, byte[].class);

    private static final String BLOCK = "int feed(int a, int b, int c, int d, int e); boolean end(int n); int society(); "
        + "int fault(int what); int has(int what); int letter(int kind, int which, int k); "
        + "int person(int person, int what); int coin(int coin, int what); int met(int coin, int person); "
        + "int may(int coin, int person); int goods(int goods, int person, int what); "
        + "int spend(int person, int other); int present(int coin, int person); "
        + "boolean pay(int coin, int person); int buy(int person, int goods, int coins); int tea(int people); "
        + "int days(int n); int calls(int n); boolean undo(); boolean seed(int seed); "
        + "int introduce(int person, int other, int sum, int what); int comes(int coin, int person, int k); "
        + "int best(int n, int what); int letters(); int letterIs(int k); int fair(int person, int what); "
        + "int later(int coin, int n); int useless(int what); int image(); int octet(int k); boolean on(); "
        + "int status(int what);";

    /** What stands in the document's block, without the names of what is given: "int feed(int, int, int, int, int)". */
    private static TreeSet<String> told() {
        TreeSet<String> all = new TreeSet<>();
        for (String method : BLOCK.split("; ?")) all.add(method.replaceAll("int \\w+([,)])", "int$1"));
        return all;
    }

    private static String parameters(Class<?>[] types) {
        StringBuilder s = new StringBuilder("(");
        for (Class<?> type : types) s.append(s.length() > 1 ? ", " : "").append(type.getSimpleName());
        return s.append(")").toString();
    }

    private static void methods() {
        c.at("the public face, methods");
        TreeSet<String> seen = new TreeSet<>();
        TreeSet<String> names = new TreeSet<>();
        for (Method m : CoinCircle.class.getDeclaredMethods()) {
            if (Modifier.isPrivate(m.getModifiers())) continue;
            c.due("only public: " + m, m.getModifiers(), Modifier.PUBLIC);
            c.due("no exceptions: " + m, m.getExceptionTypes().length, 0);
            seen.add(m.getReturnType().getSimpleName() + " " + m.getName() + parameters(m.getParameterTypes()));
            names.add(m.getName());
        }
        c.same("the document's block", seen.toString(), told().toString());
        c.due("so many", seen.size(), 32);
        for (Method m : CoinCircle.class.getDeclaredMethods()) {
            boolean isHidden = Modifier.isPrivate(m.getModifiers());
            c.due("a private one is named otherwise: " + m, isHidden && names.contains(m.getName()), false);
        }
    }

    private static void theRest() {
        c.at("the public face, the class");
        c.due("public final", CoinCircle.class.getModifiers(), Modifier.PUBLIC | Modifier.FINAL);
        c.due("no package", CoinCircle.class.getPackageName().isEmpty(), true);
        c.due("interfaces", CoinCircle.class.getInterfaces().length, 0);
        c.same("extends", CoinCircle.class.getSuperclass().getName(), "java.lang.Object");
        c.at("the public face, the constructor");
        Constructor<?>[] made = CoinCircle.class.getDeclaredConstructors();
        c.due("one", made.length, 1);
        c.same("the constructor", Modifier.toString(made[0].getModifiers()) + parameters(made[0].getParameterTypes()), "public()");
        c.at("the public face, the constant");
        for (Field f : CoinCircle.class.getDeclaredFields()) {
            String seen = Modifier.isPrivate(f.getModifiers()) ? "" : Modifier.toString(f.getModifiers()) + " " + f.getType();
            c.same(f.getName(), seen, f.getName().equals("NONE") ? "public static final int" : "");
        }
        c.due("NONE", CoinCircle.NONE, -1);
    }

    /** LANGUAGE.md, rules 1, 2, 5 and 11, of the class and of those inside it. */
    private static void inside(Class<?> type) {
        c.at("LANGUAGE.md, " + type.getName());
        if (type != CoinCircle.class) {
            c.due("static", Modifier.isStatic(type.getModifiers()), true);
            c.due("public, protected", type.getModifiers() & (Modifier.PUBLIC | Modifier.PROTECTED), 0);
        }
        int fields = 0;
        for (Field f : type.getDeclaredFields()) {
            if (!Modifier.isStatic(f.getModifiers())) {
                fields++;
                continue;
            }
            c.due("final: " + f, Modifier.isFinal(f.getModifiers()), true);
            c.due("a constant: " + f, CONSTANTS.contains(f.getType()), true);
        }
        c.due("fields: " + fields, fields <= 20, true);
        for (Method m : type.getDeclaredMethods()) c.due("parameters: " + m, m.getParameterCount() <= 7, true);
        for (Class<?> other : type.getDeclaredClasses()) inside(other);
    }

    public static void main(String[] args) {
        methods();
        theRest();
        inside(CoinCircle.class);
        c.finish();
    }
}

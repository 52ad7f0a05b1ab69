import java.lang.reflect.Constructor;
import java.lang.reflect.Field;
import java.lang.reflect.Method;
import java.lang.reflect.Modifier;
import java.util.Arrays;
import java.util.List;
import java.util.TreeSet;

/** The face is the document's and no more, and no arguments in any state make it throw. */
public final class FaceTest {

    private static final String FACE = "feed(int,int,int,int,int) end(int) tell() set(int,int) tie(int,boolean) space(int,int) "
        + "swap(int,int) again(int) drop(int) undo() keep(int) back(int) block(int,int) piece(int,int) section(int,int) "
        + "pour() column(int,int) where(int,int) note(int,int) span(int,int) fits(int,int) least(int) reach(int,int,int) "
        + "trial(int,int) costs(int,int) tall(int) loose(int) page(int,int) ways(int,int) untie(int,int) narrow(int,int) "
        + "even(int) order(int) count(int)";
    private static int wrong = 0;

    private static void due(boolean right, String what) {
        if (!right) {
            wrong++;
            System.out.println("not as due: " + what);
        }
    }

    public static void main(String[] args) throws Exception {
        members();
        wildArguments();
        System.out.println(wrong == 0 ? "the face is as due" : wrong + " wrong");
        if (wrong != 0) {
            System.exit(1);
        }
    }

    private static void members() {
        Class<?> c = ColumnsLevelled.class;
        due(Modifier.isPublic(c.getModifiers()) && Modifier.isFinal(c.getModifiers()), "public and final");
        TreeSet<String> due = new TreeSet<>(Arrays.asList(FACE.split(" ")));
        TreeSet<String> names = new TreeSet<>();
        for (String f : due) {
            names.add(f.substring(0, f.indexOf('(')));
        }
        TreeSet<String> open = new TreeSet<>();
        for (Method m : c.getDeclaredMethods()) {
            StringBuilder b = new StringBuilder(m.getName()).append('(');
            for (Class<?> p : m.getParameterTypes()) {
                b.append(b.charAt(b.length() - 1) == '(' ? "" : ",").append(p.getName());
            }
            String sign = b.append(')').toString();
            if (Modifier.isPrivate(m.getModifiers())) {
                due(!names.contains(m.getName()), "a private method " + m.getName());
            } else if (!m.isSynthetic()) {
                open.add(sign);
                due(Modifier.isPublic(m.getModifiers()) && !Modifier.isStatic(m.getModifiers()), sign);
                due(m.getReturnType() == int.class, sign + " answers an int");
            }
        }
        due(open.equals(due), "the methods: " + open);
        for (Field f : c.getDeclaredFields()) {
            boolean constant = f.getName().equals("NONE");
            due(constant || Modifier.isPrivate(f.getModifiers()), "a field " + f.getName());
            due(!Modifier.isStatic(f.getModifiers()) || Modifier.isFinal(f.getModifiers()), "a static field " + f.getName());
        }
        due(ColumnsLevelled.NONE == -1, "NONE");
        Constructor<?>[] makers = c.getDeclaredConstructors();
        due(makers.length == 1 && makers[0].getParameterCount() == 0 && Modifier.isPublic(makers[0].getModifiers()),
            "one constructor");
        for (Class<?> inner : c.getDeclaredClasses()) {
            due(Modifier.isStatic(inner.getModifiers()) && Modifier.isPrivate(inner.getModifiers()), inner.getName());
            for (Method m : inner.getDeclaredMethods()) {
                due(!names.contains(m.getName()), "a method inside named " + m.getName());
            }
        }
    }

    private static final int[] WILD = {Integer.MIN_VALUE, -2147483647, -65536, -401, -3, -2, -1, 0, 1, 2, 5, 15, 16, 17, 39, 40,
        89, 90, 91, 400, 401, 2000, 2001, 65536, 2147483646, Integer.MAX_VALUE};

    private static void wildArguments() throws Exception {
        List<String> texts = List.of("", "columns 5;orphans 1;widows 1;lines 30 1;lines 30 1;lines 30 1",
            "height 10;solid 11", "span 60;span 60", "columns 3;height 14;head 2 tied;lines 9 1 mark 3 20 mark 9 20;span 3;"
            + "table 9 9 1 tied space 30;solid 5;span 1",
            "columns 1;height 10;orphans 1;widows 1;lines 30 9 mark 30 20;lines 30 9;span 60;lines 30 9",
            "span 1;".repeat(15) + "span 1");
        for (String text : texts) {
            for (Method m : ColumnsLevelled.class.getDeclaredMethods()) {
                if (Modifier.isPublic(m.getModifiers())) {
                    callWildly(text, m);
                }
            }
        }
    }

    private static void callWildly(String text, Method m) throws Exception {
        int many = m.getParameterCount();
        int calls = many == 0 ? 1 : many == 1 ? WILD.length : WILD.length * WILD.length;
        ColumnsLevelled x = Texts.of(text);
        for (int i = 0; i < calls; i++) {
            if (i % 400 == 399) {
                x = Texts.of(text);
            }
            Object[] args = new Object[many];
            for (int k = 0; k < many; k++) {
                int v = k == 0 ? WILD[i % WILD.length] : k == 1 ? WILD[i / WILD.length] : WILD[(i * 7 + k) % WILD.length];
                args[k] = m.getParameterTypes()[k] == boolean.class ? (Object) (v % 2 == 0) : (Object) v;
            }
            try {
                m.invoke(x, args);
            } catch (java.lang.reflect.InvocationTargetException e) {
                due(false, text + ": " + m.getName() + Arrays.toString(args) + " threw " + e.getCause());
                return;
            }
        }
    }
}

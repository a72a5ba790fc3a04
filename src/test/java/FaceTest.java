import java.lang.reflect.Constructor;
import java.lang.reflect.Field;
import java.lang.reflect.Method;
import java.lang.reflect.Modifier;
import java.util.Arrays;
import java.util.NoSuchElementException;
import java.util.Set;
import java.util.TreeSet;

/** The public face: every constant, constructor and method of the document, and no other visible member. */
public final class FaceTest {
    private static final Due DUE = new Due("FaceTest");
    private static final String[] FACE = {
        "int sign(int)", "boolean end(int)", "int net()", "int adds()", "int drops(int)", "int waiting(int)",
        "int goal(int)", "int riders(int,int)", "int out(int,boolean)", "int closes(int,boolean)",
        "int often(int,int)", "int line(int,int)", "int stop(int,int)", "int cost(int)", "int rounds()",
        "int chosen(int)", "int boarding(int,int)", "int aboard(int,int)", "int worst()", "int wait(int)",
        "int boards(int)", "int slack(int,int)", "int reach(int)", "int between(int,int)", "int load(int,int)",
        "int passes(int)", "int ridden(int)", "int boardings(int,int)", "long total()", "int fullest()",
        "int changes()", "int crowd(int)", "int seats(int,int)", "int settles(int)", "int balances(int,int)",
        "int averaged(int,int)", "int clears()", "long without(int)", "long shut(int)", "long more(int,int)",
        "int best(int)", "long towards(int)", "long slower(int,int,int)", "long skips(int,int)", "int uses(int,int)",
        "int centre()", "int spare()", "int offset(int,int)", "int comes(int,int,int)", "int journey(int,int)",
        "int usual(int,int)", "int count(int)", "long row(int)",
    };

    public static void main(String[] args) throws ReflectiveOperationException {
        Class<?> type = LineChoice.class;
        DUE.is("class", Modifier.toString(type.getModifiers()), "public final");
        Set<String> visible = new TreeSet<>();
        Set<String> names = new TreeSet<>();
        for (Method m : type.getDeclaredMethods()) {
            if (!Modifier.isPrivate(m.getModifiers())) {
                DUE.is(m.getName(), Modifier.toString(m.getModifiers()), "public");
                visible.add(shown(m));
                names.add(m.getName());
            }
        }
        DUE.is("methods", visible, new TreeSet<>(Arrays.asList(FACE)));
        Constructor<?>[] made = type.getDeclaredConstructors();
        DUE.is("constructors", made.length, 1);
        DUE.is("constructor", made[0].toString(), "public LineChoice()");
        for (Field f : type.getDeclaredFields()) {
            boolean constant = f.getName().equals("NONE");
            DUE.is(f.getName(), Modifier.isPrivate(f.getModifiers()), !constant);
        }
        DUE.is("NONE", Modifier.toString(type.getField("NONE").getModifiers()), "public static final");
        Class<?>[] thrown = type.getMethod("row", int.class).getExceptionTypes();
        DUE.is("row throws", Arrays.asList(thrown), Arrays.asList(NoSuchElementException.class));
        noPrivateOneOfThatName(type, names);
        for (Class<?> inner : type.getDeclaredClasses()) {
            DUE.is(inner.getName() + " is static", Modifier.isStatic(inner.getModifiers()), true);
            DUE.is(inner.getName() + " is not public", Modifier.isPublic(inner.getModifiers()), false);
            noPrivateOneOfThatName(inner, names);
        }
        DUE.close();
    }

    private static void noPrivateOneOfThatName(Class<?> type, Set<String> names) {
        for (Method m : type.getDeclaredMethods()) {
            boolean ofTheFace = type == LineChoice.class && Modifier.isPublic(m.getModifiers());
            DUE.is(type.getName() + "." + m.getName(), !ofTheFace && names.contains(m.getName()), false);
        }
    }

    private static String shown(Method m) {
        StringBuilder s = new StringBuilder(m.getReturnType().getName()).append(' ').append(m.getName()).append('(');
        for (Class<?> p : m.getParameterTypes()) {
            s.append(s.charAt(s.length() - 1) == '(' ? "" : ",").append(p.getName());
        }
        return s.append(')').toString();
    }
}

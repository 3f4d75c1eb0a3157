import java.lang.reflect.Constructor;
import java.lang.reflect.Field;
import java.lang.reflect.Method;
import java.lang.reflect.Modifier;
import java.util.Set;
import java.util.TreeSet;

/** The public face: the constants, the constructor and the methods of the document, and nothing else. */
public final class FaceTest {
    private static final String[] METHODS = {
        "about(int,int)", "area(int)", "aside(int,int)", "at(int,int,int)", "back()", "begin(int)",
        "corner(int,int)", "count(int)", "covers(int)", "cut(int,int,int,int)", "fetch(int)", "figure(int)",
        "find(int,int)", "half(int,int,int)", "isOf(int,int)", "join(int,int)", "over(int,int)",
        "part(int,int,int,int,int)", "redo()", "shelve(int)", "slide(int,int,int)", "sum(int,int)", "sums()",
        "third(int)", "undo()"};

    public static void main(String[] args) {
        Due.due("BAD", ScissorsBench.BAD, Due.BAD);
        Due.due("NO", ScissorsBench.NO, Due.NO);
        Due.due("FULL", ScissorsBench.FULL, Due.FULL);
        Due.due("OFF", ScissorsBench.OFF, Due.OFF);
        Due.due("NONE", ScissorsBench.NONE, Due.NONE);
        Class<?> bench = ScissorsBench.class;
        Due.due("public final", bench.getModifiers(), Modifier.PUBLIC | Modifier.FINAL);
        Set<String> methods = new TreeSet<>();
        for (Method method : bench.getDeclaredMethods()) {
            if (!Modifier.isPrivate(method.getModifiers())) {
                methods.add(told(method));
            }
        }
        Due.due("methods " + methods, methods.equals(Set.of(METHODS)) ? 1 : 0, 1);
        Set<String> fields = new TreeSet<>();
        for (Field field : bench.getDeclaredFields()) {
            if (!Modifier.isPrivate(field.getModifiers())) {
                fields.add(field.getName());
            }
        }
        Due.due("fields " + fields, fields.equals(Set.of("BAD", "NO", "FULL", "OFF", "NONE")) ? 1 : 0, 1);
        Constructor<?>[] constructors = bench.getDeclaredConstructors();
        Due.due("constructors", constructors.length, 1);
        Due.due("public constructor", constructors[0].getModifiers(), Modifier.PUBLIC);
        Due.due("its parameters", constructors[0].getParameterCount(), 0);
        Due.end();
    }

    private static String told(Method method) {
        StringBuilder told = new StringBuilder();
        if (method.getModifiers() != Modifier.PUBLIC || method.getReturnType() != long.class) {
            told.append("not public, or not long: ");
        }
        told.append(method.getName()).append('(');
        for (Class<?> parameter : method.getParameterTypes()) {
            told.append(told.charAt(told.length() - 1) == '(' ? "" : ",").append(parameter);
        }
        return told.append(')').toString();
    }
}

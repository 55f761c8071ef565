import java.lang.reflect.Constructor;
import java.lang.reflect.Field;
import java.lang.reflect.Method;
import java.lang.reflect.Modifier;
import java.util.ArrayList;
import java.util.Arrays;
import java.util.List;

/** The public face of the document: no member more, none less. */
public final class FaceTest {
    private static final String INDEX = "IndexOutOfBoundsException";
    private static final String ARGUMENT = "IllegalArgumentException";
    private static final String STATE = "IllegalStateException";
    private static final String[] METHODS = {
        "append(int) " + ARGUMENT + " " + STATE,
        "clearText()",
        "errorPosition()",
        "load() " + STATE,
        "about(int) " + ARGUMENT,
        "master(int,int) " + INDEX + " " + ARGUMENT,
        "owner(int) " + INDEX,
        "owes(int,int) " + INDEX,
        "burst(int,int,int) " + INDEX + " " + ARGUMENT,
        "order(int) " + ARGUMENT,
        "addMaster() " + STATE,
        "give(int,int) " + INDEX + " " + STATE,
        "setLatency(int,int) " + INDEX + " " + ARGUMENT,
        "setCredit(int) " + ARGUMENT,
        "send(int,int,int,boolean) " + INDEX + " " + ARGUMENT + " " + STATE,
        "pass(int) " + ARGUMENT,
        "forgive(int,int) " + INDEX,
        "undo() " + STATE,
        "turnIn(int) " + ARGUMENT,
        "doneIn(int) " + INDEX,
        "bestCredit()",
        "bestSlot(int) " + INDEX,
        "runScript(int,long) " + ARGUMENT,
        "simulate(long,int) " + ARGUMENT,
        "save(int) " + INDEX,
        "restore(int) " + INDEX + " " + STATE,
    };

    public static void main(String[] args) {
        methods();
        others();
        Due.end();
    }

    private static void methods() {
        List<String> found = new ArrayList<>();
        List<String> hidden = new ArrayList<>();
        for (Method method : TurnBus.class.getDeclaredMethods()) {
            if (Modifier.isPublic(method.getModifiers())) {
                Due.same("result of " + method.getName(), method.getReturnType().getName(), "int");
                found.add(told(method));
            } else {
                Due.is(method + " is private", Modifier.isPrivate(method.getModifiers()) ? 1 : 0, 1);
                hidden.add(method.getName());
            }
        }
        List<String> want = new ArrayList<>(Arrays.asList(METHODS));
        found.sort(null);
        want.sort(null);
        Due.same("public methods", found.toString(), want.toString());
        for (String name : hidden) {
            for (String method : METHODS) {
                Due.is(name + " is no public name", method.startsWith(name + "(") ? 1 : 0, 0);
            }
        }
    }

    private static String told(Method method) {
        StringBuilder told = new StringBuilder(method.getName()).append('(');
        for (Class<?> type : method.getParameterTypes()) {
            told.append(told.charAt(told.length() - 1) == '(' ? "" : ",").append(type.getName());
        }
        told.append(')');
        for (Class<?> type : method.getExceptionTypes()) {
            told.append(' ').append(type.getSimpleName());
        }
        return told.toString();
    }

    private static void others() {
        int modifiers = TurnBus.class.getModifiers();
        Due.is("public and final", Modifier.isPublic(modifiers) && Modifier.isFinal(modifiers) ? 1 : 0, 1);
        Constructor<?>[] constructors = TurnBus.class.getDeclaredConstructors();
        Due.is("constructors", constructors.length, 1);
        Due.is("parameters of it", constructors[0].getParameterCount(), 0);
        Due.is("it is public", Modifier.isPublic(constructors[0].getModifiers()) ? 1 : 0, 1);
        for (Field field : TurnBus.class.getDeclaredFields()) {
            boolean isNone = field.getName().equals("NONE");
            Due.is(field + " is public", Modifier.isPublic(field.getModifiers()) ? 1 : 0, isNone ? 1 : 0);
            Due.is(field + " is hidden", Modifier.isPrivate(field.getModifiers()) ? 1 : 0, isNone ? 0 : 1);
            Due.is(field + " is final", Modifier.isFinal(field.getModifiers()) ? 1 : 0, 1);
        }
        for (Class<?> inside : TurnBus.class.getDeclaredClasses()) {
            int its = inside.getModifiers();
            Due.is(inside + " is static", Modifier.isStatic(its) ? 1 : 0, 1);
            Due.is(inside + " is hidden", Modifier.isPublic(its) || Modifier.isProtected(its) ? 1 : 0, 0);
        }
    }
}

import java.lang.reflect.Array;
import java.lang.reflect.Constructor;
import java.lang.reflect.Field;
import java.lang.reflect.Method;
import java.lang.reflect.Modifier;
import java.util.Set;
import java.util.TreeSet;

/** The public face of the document, and what reflection can see of LANGUAGE.md's rules 1, 2, 4, 5 and 10. */
public final class FaceTest {
    private static final Set<String> FACE = Set.of(
            "radix()", "set(int,int,int)", "shift(int,int)", "feed(int,int)", "copy(int,int)",
            "add(int,int)", "subtract(int,int)", "multiply(int,int)", "multiplyLow(int,int)",
            "divide(int,int,int)", "root(int)", "power(int,int)", "divisor(int,int)", "digit(int,int)",
            "length(int)", "compare(int,int)", "digitIn(int,int,int)", "lengthIn(int,int)", "remainder(int,int)");

    private static final Set<Class<?>> TYPES = Set.of(
            void.class, int.class, long.class, short.class, byte.class, char.class, boolean.class,
            int[].class, long[].class, short[].class, byte[].class, char[].class, boolean[].class);

    public static void main(String[] args) throws IllegalAccessException {
        theClass();
        theConstructor();
        theMethods();
        theFields();
        theArrays();
        Scene.end();
    }

    private static void theClass() {
        int modifiers = RadixBig.class.getModifiers();
        Scene.check("the class is public and final", Modifier.isPublic(modifiers) && Modifier.isFinal(modifiers));
        Scene.check("the class has no other above it", RadixBig.class.getSuperclass() == Object.class);
        Scene.check("the class has no interface", RadixBig.class.getInterfaces().length == 0);
        Scene.check("the class has no nested class", RadixBig.class.getDeclaredClasses().length == 0);
    }

    private static void theConstructor() {
        Constructor<?>[] all = RadixBig.class.getDeclaredConstructors();
        Scene.check("there is one constructor", all.length == 1);
        Scene.check("the constructor is public", Modifier.isPublic(all[0].getModifiers()));
        Class<?>[] parameters = all[0].getParameterTypes();
        Scene.check("the constructor takes an int", parameters.length == 1 && parameters[0] == int.class);
    }

    private static void theMethods() {
        Set<String> open = new TreeSet<>();
        Set<String> openNames = new TreeSet<>();
        Set<String> closedNames = new TreeSet<>();
        for (Method method : RadixBig.class.getDeclaredMethods()) {
            Scene.check(method + " answers a type of rule 2", TYPES.contains(method.getReturnType()));
            Scene.check(method + " answers no array", !method.getReturnType().isArray());
            Scene.check(method + " takes at most seven", method.getParameterCount() <= 7);
            for (Class<?> type : method.getParameterTypes()) {
                Scene.check(method + " takes types of rule 2", TYPES.contains(type));
            }
            if (Modifier.isPrivate(method.getModifiers())) {
                closedNames.add(method.getName());
            } else {
                openNames.add(method.getName());
                open.add(signature(method));
                boolean plain = Modifier.isPublic(method.getModifiers()) && !Modifier.isStatic(method.getModifiers());
                Scene.check(method + " is public and not static", plain);
                Scene.check(method + " answers an int", method.getReturnType() == int.class);
            }
        }
        Scene.check("the face is " + open, open.equals(new TreeSet<>(FACE)));
        closedNames.retainAll(openNames);
        Scene.check("private methods with a public name: " + closedNames, closedNames.isEmpty());
    }

    private static String signature(Method method) {
        StringBuilder text = new StringBuilder(method.getName()).append('(');
        for (Class<?> type : method.getParameterTypes()) {
            text.append(text.charAt(text.length() - 1) == '(' ? "" : ",").append(type.getName());
        }
        return text.append(')').toString();
    }

    private static void theFields() {
        int held = 0;
        for (Field field : RadixBig.class.getDeclaredFields()) {
            boolean constant = Modifier.isStatic(field.getModifiers());
            Scene.check(field + " is private", Modifier.isPrivate(field.getModifiers()));
            Scene.check(field + " has a type of rule 2", TYPES.contains(field.getType()));
            if (constant) {
                boolean number = field.getType() == int.class || field.getType() == long.class;
                Scene.check(field + " is a constant number", number && Modifier.isFinal(field.getModifiers()));
            } else {
                held++;
            }
        }
        Scene.check(held + " fields are at most forty", held <= 40);
    }

    private static void theArrays() throws IllegalAccessException {
        RadixBig big = new RadixBig(10);
        for (Field field : RadixBig.class.getDeclaredFields()) {
            if (field.getType().isArray()) {
                field.setAccessible(true);
                Scene.check(field + " has a place or more", Array.getLength(field.get(big)) >= 1);
            }
        }
    }
}

import java.lang.reflect.Constructor;
import java.lang.reflect.Field;
import java.lang.reflect.InvocationTargetException;
import java.lang.reflect.Method;
import java.lang.reflect.Modifier;
import java.util.ArrayList;
import java.util.List;

/**
 * Rule 7 of LANGUAGE.md: an index is looked at before it is used. Each method of the classes inside,
 * and each private one of the class, is called with numbers that no caller should give; none may throw.
 */
public final class GuardsTest {
    private static final int[] NUMBERS = {
        Integer.MIN_VALUE, -1, 0, 1, 3, 5, 7, 31, 123, 124, 1000, Integer.MAX_VALUE};
    private static final String FULL_HOUSE = "AR30R01R02P0a99P0b55P0c11P1d00P2a70Q019Q241";

    public static void main(String[] args) throws ReflectiveOperationException {
        for (Class<?> inside : AbsentCarpets.class.getDeclaredClasses()) {
            for (Method method : inside.getDeclaredMethods()) {
                callWithAll(inside, method);
            }
        }
        for (Method method : AbsentCarpets.class.getDeclaredMethods()) {
            if (Modifier.isPrivate(method.getModifiers())) {
                callWithAll(AbsentCarpets.class, method);
            }
        }
        Check.end();
    }

    /** All rows of NUMBERS, one number for each parameter that is one. */
    private static void callWithAll(Class<?> owner, Method method) throws ReflectiveOperationException {
        method.setAccessible(true);
        int rows = 1;
        for (Class<?> type : method.getParameterTypes()) {
            rows *= type == int.class ? NUMBERS.length : 1;
        }
        for (int row = 0; row < rows; row++) {
            call(owner, method, row);
        }
    }

    private static void call(Class<?> owner, Method method, int row) throws ReflectiveOperationException {
        AbsentCarpets x = lived();
        Object target = owner == AbsentCarpets.class ? x : partOf(x, owner);
        Class<?>[] types = method.getParameterTypes();
        Object[] values = new Object[types.length];
        List<Integer> numbers = new ArrayList<>();
        int rest = row;
        for (int i = 0; i < types.length; i++) {
            if (types[i] == int.class) {
                int number = NUMBERS[rest % NUMBERS.length];
                rest /= NUMBERS.length;
                numbers.add(number);
                values[i] = number;
            } else {
                values[i] = valueOf(x, types[i]);
            }
        }
        String thrown = "";
        try {
            method.invoke(Modifier.isStatic(method.getModifiers()) ? null : target, values);
        } catch (InvocationTargetException e) {
            thrown = e.getCause().toString();
        }
        Check.holds(method + " with " + numbers + " threw " + thrown, thrown.isEmpty());
    }

    /** An object in which much has been done, so that its parts are full of numbers. */
    private static AbsentCarpets lived() {
        AbsentCarpets x = Check.house(FULL_HOUSE);
        x.dinner(31, 9);
        x.dinner(5, 0);
        x.invite(1, 6);
        x.luck(1, 3, true);
        x.see(0, 2);
        x.keep(0);
        return x;
    }

    private static Object valueOf(AbsentCarpets x, Class<?> type) throws ReflectiveOperationException {
        if (type == boolean.class) {
            return true;
        }
        if (type == long.class) {
            return Long.MAX_VALUE;
        }
        if (type == int[].class) {
            return new int[1];
        }
        if (type == long[].class) {
            return new long[1];
        }
        return partOf(x, type);
    }

    /** The object's own part of this class; of one that it has not, a new one. */
    private static Object partOf(AbsentCarpets x, Class<?> type) throws ReflectiveOperationException {
        for (Field field : AbsentCarpets.class.getDeclaredFields()) {
            if (field.getType() == type) {
                field.setAccessible(true);
                return field.get(x);
            }
        }
        Constructor<?> making = type.getDeclaredConstructor();
        making.setAccessible(true);
        return making.newInstance();
    }
}

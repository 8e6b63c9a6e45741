import java.lang.reflect.Constructor;
import java.lang.reflect.Field;
import java.lang.reflect.Method;
import java.lang.reflect.Modifier;
import java.util.Arrays;
import java.util.Set;
import java.util.TreeSet;

/** The class shows the document's face and no other member. */
public final class FaceTest {
    private static final String[] FACE = {
        "int append(int,int,int,int,int)", "int parse(int)", "int nodeCount()", "int streetCount()",
        "int houseCount()", "int capacity()", "int day()", "int houseNode(int)", "int order(int,int)",
        "int isOpen(int,int)", "int arrival(int,int,int)", "int demand(int)", "int totalDemand()", "int stops()",
        "int habit(int,int)", "int horseStop(int)", "int fastestFinish()", "int fastestStop(int)",
        "int previewFinish(int)", "int bottlesAt(int)", "int delivered(int)", "int returned(int)", "int broken(int)",
        "int bill(int)", "int bottlesOut()", "int finish()", "int visitCount()", "int visitHouse(int)",
        "int visitMinute(int)", "int visitReturned(int)", "int reloads()", "int carryOut(int)",
        "boolean setSkipped(int,boolean)", "int breakBottles(int,int)", "int setOrder(int,int,int)",
        "int setKeep(int,int)", "boolean setGate(int,int,int)", "int undo()", "boolean saveSnapshot(int)",
        "boolean restoreSnapshot(int)", "new()",
        "INVALID = -1", "ABSENT = -2", "BY_NUMBER = 0", "BY_HABIT = 1", "FASTEST = 2"};

    private FaceTest() {
    }

    private static String parameters(Class<?>[] types) {
        StringBuilder list = new StringBuilder("(");
        for (Class<?> type : types) {
            list.append(list.length() > 1 ? "," : "").append(type.getName());
        }
        return list.append(')').toString();
    }

    private static String shown(int modifiers, String member) {
        return Modifier.isPublic(modifiers) ? member : "not public: " + member;
    }

    public static void main(String[] args) throws IllegalAccessException {
        Set<String> found = new TreeSet<>();
        Set<String> publicNames = new TreeSet<>();
        Set<String> privateNames = new TreeSet<>();
        for (Method m : DeliveryRound.class.getDeclaredMethods()) {
            boolean hidden = Modifier.isPrivate(m.getModifiers());
            (hidden ? privateNames : publicNames).add(m.getName());
            if (!hidden) {
                found.add(shown(m.getModifiers(), m.getReturnType() + " " + m.getName()
                        + parameters(m.getParameterTypes())));
            }
        }
        for (Constructor<?> c : DeliveryRound.class.getDeclaredConstructors()) {
            found.add(shown(c.getModifiers(), "new" + parameters(c.getParameterTypes())));
        }
        for (Field f : DeliveryRound.class.getDeclaredFields()) {
            int m = f.getModifiers();
            if (!Modifier.isPrivate(m)) {
                boolean constant = Modifier.isStatic(m) && Modifier.isFinal(m) && f.getType() == int.class;
                found.add(shown(m, constant ? f.getName() + " = " + f.getInt(null) : "a field " + f.getName()));
            }
        }
        privateNames.retainAll(publicNames);
        Check.due("members " + found, found.equals(new TreeSet<>(Arrays.asList(FACE))), true);
        Check.due("private methods with a public name " + privateNames, privateNames.size(), 0);
        Check.due("public and final", DeliveryRound.class.getModifiers(), Modifier.PUBLIC | Modifier.FINAL);
        Check.due("superclass", DeliveryRound.class.getSuperclass() == Object.class, true);
        for (Class<?> inside : DeliveryRound.class.getDeclaredClasses()) {
            int m = inside.getModifiers();
            Check.due(inside + " is static", Modifier.isStatic(m), true);
            Check.due(inside + " is not shown", Modifier.isPublic(m) || Modifier.isProtected(m), false);
        }
        Check.end();
    }
}

import java.lang.reflect.Constructor;
import java.lang.reflect.Field;
import java.lang.reflect.Method;
import java.lang.reflect.Modifier;
import java.util.Arrays;
import java.util.Set;
import java.util.TreeSet;

/** The public face: the constants, the constructor and the methods of the document, and nothing else. */
final class FaceTest {
    private static final Set<String> METHODS = Set.of(
            "alone(int, int, boolean)", "gossip(int, int, int, boolean)", "events()", "latest(int)",
            "under(int, int)", "wellUnder(int, int)", "round(int)", "witness(int)", "witnesses(int)",
            "fame(int)", "decider(int)", "settled()", "received(int)", "finalTime(int)", "ordered()",
            "orderAt(int)", "placeOf(int)", "digest()");
    private static final Set<String> CONSTANTS = Set.of("BAD", "NONE", "FULL");

    private FaceTest() {
    }

    public static void main(String[] args) {
        Check.holds("the class is public and final",
                GossipOrder.class.getModifiers() == (Modifier.PUBLIC | Modifier.FINAL));
        Check.due("BAD", GossipOrder.BAD, -1);
        Check.due("NONE", GossipOrder.NONE, -2);
        Check.due("FULL", GossipOrder.FULL, -3);
        checkConstructor();
        checkMethods();
        checkFields();
        Check.end();
    }

    private static void checkConstructor() {
        Constructor<?>[] all = GossipOrder.class.getDeclaredConstructors();
        Check.due("how many constructors", all.length, 1);
        Check.holds("the constructor is public and takes nothing",
                Modifier.isPublic(all[0].getModifiers()) && all[0].getParameterCount() == 0);
    }

    private static void checkMethods() {
        Set<String> seen = new TreeSet<>();
        for (Method method : GossipOrder.class.getDeclaredMethods()) {
            if (!Modifier.isPrivate(method.getModifiers())) {
                String parameters = Arrays.toString(method.getParameterTypes());
                seen.add(method.getName() + "(" + parameters.substring(1, parameters.length() - 1) + ")");
                Check.holds(method + " is public, of the object, and answers an int",
                        method.getModifiers() == Modifier.PUBLIC && method.getReturnType() == int.class);
            }
        }
        Check.holds("the methods are the document's: " + seen, seen.equals(METHODS));
    }

    private static void checkFields() {
        Set<String> seen = new TreeSet<>();
        for (Field field : GossipOrder.class.getDeclaredFields()) {
            if (!Modifier.isPrivate(field.getModifiers())) {
                seen.add(field.getName());
                Check.holds(field + " is a public constant int", field.getType() == int.class
                        && field.getModifiers() == (Modifier.PUBLIC | Modifier.STATIC | Modifier.FINAL));
            }
        }
        Check.holds("the constants are the document's: " + seen, seen.equals(CONSTANTS));
    }
}

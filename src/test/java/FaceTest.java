import java.lang.reflect.Constructor;
import java.lang.reflect.Field;
import java.lang.reflect.Method;
import java.lang.reflect.Modifier;
import java.util.ArrayList;
import java.util.Collections;
import java.util.List;

/** The public face: all that the document names, and nothing else. */
public final class FaceTest {
    private static final Checks c = new Checks();
    private static final String[] METHODS = {
        "feed 1", "land 0", "fault 0", "told 1", "fighter 2", "thinks 2", "chats 1", "task 2", "trick 2", "read 2", "rumour 1",
        "inspect 2", "belt 2", "attempt 3", "drift 1", "plan 3", "stops 1", "write 1", "tells 3", "words 2", "hire 2", "saw 3",
        "hides 2", "note 3", "tear 0", "judge 0", "seed 1", "keep 1", "goBack 1"
    };

    public static void main(String[] args) {
        c.due("NONE", -1, SevenBlows.NONE);
        c.due("UNKNOWN", -1000000001, SevenBlows.UNKNOWN);
        c.due("OUTSIDE", -1000000002, SevenBlows.OUTSIDE);
        c.due("NOT", -1000000003, SevenBlows.NOT);
        c.due("FULL", -1000000004, SevenBlows.FULL);
        methods();
        others();
        c.end();
    }

    private static void methods() {
        List<String> named = new ArrayList<>(List.of(METHODS));
        List<String> found = new ArrayList<>();
        for (Method m : SevenBlows.class.getDeclaredMethods()) {
            if (Modifier.isPrivate(m.getModifiers())) {
                nameOfItsOwn(m);
                continue;
            }
            found.add(m.getName() + " " + m.getParameterCount());
            c.holds(m + " is public and of int", m.getModifiers() == Modifier.PUBLIC && m.getReturnType() == int.class);
            for (Class<?> type : m.getParameterTypes()) {
                c.holds(m + " takes int", type == int.class);
            }
        }
        Collections.sort(named);
        Collections.sort(found);
        c.holds("methods are " + named + ", found " + found, named.equals(found));
    }

    private static void others() {
        Class<?> face = SevenBlows.class;
        c.holds("public and final", face.getModifiers() == (Modifier.PUBLIC | Modifier.FINAL));
        Constructor<?>[] made = face.getDeclaredConstructors();
        c.due("constructors", 1, made.length);
        c.holds("public constructor without parameters", made[0].getModifiers() == Modifier.PUBLIC && made[0].getParameterCount() == 0);
        int shown = 0;
        int held = 0;
        for (Field f : face.getDeclaredFields()) {
            shown += Modifier.isPrivate(f.getModifiers()) ? 0 : 1;
            held += Modifier.isStatic(f.getModifiers()) ? 0 : 1;
            c.holds(f + " is final, if static", !Modifier.isStatic(f.getModifiers()) || Modifier.isFinal(f.getModifiers()));
        }
        c.due("fields that are not private", 5, shown);
        c.holds("twenty fields at most", held <= 20);
        Class<?>[] inside = face.getDeclaredClasses();
        c.holds("twelve classes at most", inside.length <= 11);
        for (Class<?> k : inside) {
            insideClass(k);
        }
    }

    private static void insideClass(Class<?> k) {
        c.holds(k + " is static", Modifier.isStatic(k.getModifiers()));
        c.holds(k + " is not public", !Modifier.isPublic(k.getModifiers()) && !Modifier.isProtected(k.getModifiers()));
        c.holds(k + " has twenty fields at most", k.getDeclaredFields().length <= 20);
        for (Method m : k.getDeclaredMethods()) {
            nameOfItsOwn(m);
        }
    }

    private static void nameOfItsOwn(Method m) {
        for (String named : METHODS) {
            c.holds(m + " has a name of its own", !named.substring(0, named.indexOf(' ')).equals(m.getName()));
        }
        c.holds(m + " takes seven at most", m.getParameterCount() <= 7);
    }
}

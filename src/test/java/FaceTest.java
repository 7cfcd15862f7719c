import java.lang.reflect.Constructor;
import java.lang.reflect.Field;
import java.lang.reflect.Method;
import java.lang.reflect.Modifier;
import java.util.ArrayList;
import java.util.Collections;
import java.util.List;

/** The public face, just as the document writes it, and promise 1: a new object. */
public final class FaceTest {
    private static final String INDEX = " IndexOutOfBoundsException";
    private static final String ARGUMENT = " IllegalArgumentException";
    private static final String FULL = " UnsupportedOperationException";
    private static final String ELEMENT = " NoSuchElementException";

    private static final String[] FACE = {
        "int feed int int int int int;",
        "boolean end int;",
        "int station int int int int;" + ARGUMENT + FULL,
        "int stage int int int;" + INDEX + ARGUMENT + FULL,
        "int caravan int int int;" + INDEX + ARGUMENT + FULL,
        "int orders int;" + INDEX + ARGUMENT,
        "int contract int;" + INDEX + ARGUMENT,
        "int fault;",
        "int days int;" + ARGUMENT,
        "int look int int;" + INDEX + ELEMENT,
        "int state int int;" + INDEX + ELEMENT,
        "int knows int int boolean;" + INDEX,
        "int lost int int;" + INDEX,
        "int entry int int;" + INDEX + ELEMENT,
        "boolean correct int int;" + INDEX + ARGUMENT,
        "long balance int int int int;" + INDEX + ARGUMENT,
        "int split int;" + ARGUMENT,
        "long count int;",
    };

    public static void main(String[] args) {
        Checks.due("NONE", SaltCaravans.NONE, -1);
        Checks.due("public and final", SaltCaravans.class.getModifiers(), Modifier.PUBLIC | Modifier.FINAL);
        methodsAreTheDocuments();
        nothingElseCanBeSeen();
        aNewObjectIsEmpty();
        objectsShareNothing();
        Checks.finish();
    }

    private static void methodsAreTheDocuments() {
        List<String> found = new ArrayList<>();
        for (Method m : SaltCaravans.class.getDeclaredMethods()) {
            if (!Modifier.isPrivate(m.getModifiers())) {
                found.add(written(m));
            }
        }
        List<String> want = new ArrayList<>(List.of(FACE));
        Collections.sort(found);
        Collections.sort(want);
        Checks.due("the methods", found.toString(), want.toString());
    }

    private static String written(Method m) {
        StringBuilder text = new StringBuilder(m.getReturnType().getSimpleName()).append(' ').append(m.getName());
        for (Class<?> type : m.getParameterTypes()) {
            text.append(' ').append(type.getSimpleName());
        }
        text.append(';');
        for (Class<?> type : m.getExceptionTypes()) {
            text.append(' ').append(type.getSimpleName());
        }
        return text.toString();
    }

    private static void nothingElseCanBeSeen() {
        int fields = 0;
        for (Field f : SaltCaravans.class.getDeclaredFields()) {
            if (!Modifier.isPrivate(f.getModifiers())) {
                fields++;
            }
        }
        Checks.due("fields that can be seen", fields, 1);
        Constructor<?>[] constructors = SaltCaravans.class.getDeclaredConstructors();
        Checks.due("constructors", constructors.length, 1);
        Checks.due("constructor is public", constructors[0].getModifiers(), Modifier.PUBLIC);
    }

    private static void aNewObjectIsEmpty() {
        SaltCaravans x = new SaltCaravans();
        for (int what = 0; what < 12; what++) {
            Checks.due("count of a new object", x.count(what), 0);
        }
        Checks.due("fault of a new object", x.fault(), SaltCaravans.NONE);
        Checks.due("split of a new object", x.split(5000), 0);
        Checks.due("end(1) of a new object", x.end(1), false);
        Checks.dueThrow("look of a new object", Checks.INDEX, () -> x.look(0, 0));
        Checks.dueThrow("state of a new object", Checks.INDEX, () -> x.state(0, 0));
        Checks.dueThrow("entry of a new object", Checks.INDEX, () -> x.entry(0, 0));
        Checks.due("days(0)", x.days(0), 0);
        Checks.due("days(3) of a new object", x.days(3), 3);
    }

    private static void objectsShareNothing() {
        SaltCaravans x = new SaltCaravans();
        x.feed(1, 2, 3, 4, 5);
        x.station(0, 0, 0, 0);
        x.days(5);
        SaltCaravans y = new SaltCaravans();
        Checks.due("TODAY of another object", y.count(0), 0);
        Checks.due("STATIONS of another object", y.count(1), 0);
        Checks.due("feed of another object", y.feed(0, 0, 0, 0, 0), 20);
    }
}

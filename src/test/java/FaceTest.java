import java.lang.reflect.Constructor;
import java.lang.reflect.Field;
import java.lang.reflect.Method;
import java.lang.reflect.Modifier;
import java.util.Arrays;
import java.util.TreeSet;

/** The public face, and promise 1: a new object. */
public final class FaceTest {
    private static final String[] FACE = {
        "int feed(int,int,int,int,int)", "boolean end(int)", "int acts()", "int fault()", "int why()",
        "int join(int,int,int,int)", "int near(int,int)", "int go(int,int)", "int tidy()", "int put(int,int)",
        "int cut(int)", "int mend()", "int undo()", "int node(int,int)", "int held(int,int,int)",
        "int zone(int,int,int)", "int box(int,int)", "int cell(int,int,int,int)", "int heir(int,int,int)",
        "int key(int,int)", "int point(int,int,int)", "int way(int,int,int,int,int)", "int seek(int,int,int)",
        "int risk(int)", "int order(int,int)", "int reality(int,int)", "int ways(int,int)", "int friends(int)",
        "void image()", "boolean back()", "int count(int)"
    };

    public static void main(String[] args) {
        members();
        newObject();
        Drive.finish();
    }

    private static void members() {
        Drive drive = new Drive("face");
        TreeSet<String> shown = new TreeSet<>();
        TreeSet<String> names = new TreeSet<>();
        for (Method method : TorusZones.class.getDeclaredMethods()) {
            if (!Modifier.isPrivate(method.getModifiers())) {
                shown.add(written(method));
                names.add(method.getName());
            }
        }
        if (!shown.equals(new TreeSet<>(Arrays.asList(FACE)))) {
            drive.fail("the methods are " + shown);
        }
        for (Field field : TorusZones.class.getDeclaredFields()) {
            if (!Modifier.isPrivate(field.getModifiers()) && !field.getName().equals("NONE")) {
                drive.fail("field " + field.getName() + " is not private");
            }
        }
        Constructor<?>[] made = TorusZones.class.getDeclaredConstructors();
        if (made.length != 1 || made[0].getParameterCount() != 0 || !Modifier.isPublic(made[0].getModifiers())) {
            drive.fail("the constructors are " + Arrays.toString(made));
        }
        if (TorusZones.NONE != -1 || !Modifier.isFinal(TorusZones.class.getModifiers())) {
            drive.fail("NONE is not -1, or the class is not final");
        }
        hiddenNames(drive, names);
    }

    /** LANGUAGE.md, rule 1: no method inside bears the name of a public one. */
    private static void hiddenNames(Drive drive, TreeSet<String> names) {
        for (Method method : TorusZones.class.getDeclaredMethods()) {
            if (Modifier.isPrivate(method.getModifiers()) && names.contains(method.getName())) {
                drive.fail("a private method is named " + method.getName());
            }
        }
        for (Class<?> inside : TorusZones.class.getDeclaredClasses()) {
            if (!Modifier.isStatic(inside.getModifiers()) || Modifier.isPublic(inside.getModifiers())) {
                drive.fail(inside.getName() + " is not static, or public");
            }
            for (Method method : inside.getDeclaredMethods()) {
                if (names.contains(method.getName())) {
                    drive.fail(inside.getName() + " has a method named " + method.getName());
                }
            }
        }
    }

    private static String written(Method method) {
        StringBuilder text = new StringBuilder(method.getReturnType() + " " + method.getName() + "(");
        String comma = "";
        for (Class<?> type : method.getParameterTypes()) {
            text.append(comma).append(type);
            comma = ",";
        }
        return text.append(")").toString();
    }

    private static void newObject() {
        Drive x = new Drive("new object");
        x.due(1, "count", 0);
        for (int what = 1; what <= 7; what++) {
            x.due(0, "count", what);
        }
        x.due(-1, "fault").due(0, "why").due(false, "back").state("undo").due(false, "end", 1).due(true, "end", 0);
        for (int node = 0; node < 10; node++) {
            x.due(0, "node", node, 0).due(-1, "node", node, 1).due(-1, "node", node, 2);
            x.due(0, "held", node, 0, 0).due(0, "held", node, 0, 1).due(0, "held", node, 0, 2);
            x.due(0, "held", node, 0, 3).due(0, "held", node, 0, 4);
            x.due(-1, "zone", node, 0, 0).due(-1, "heir", node, 0, 0).due(0, "risk", node).due(0, "friends", node);
        }
        for (int key = 0; key < 100; key++) {
            x.due(-1, "key", key, 0).due(0, "key", key, 1).due(-1, "point", key, 0, 2);
        }
        x.due(-1, "cell", 0, 31, 31, 0).due(-1, "cell", 0, 0, 0, 1);
        x.due(0, "reality", 0, 0).due(-1, "reality", 0, 1).due(-1, "reality", 0, 2).due(-1, "reality", 0, 3);
        x.due(0, "reality", 0, 4).due(0, "reality", 0, 5);
        x.due(0, "ways", 0, 0).due(0, "ways", 0, 1).due(0, "ways", 0, 2).due(-1, "ways", 0, 3);
        x.index("reality", 1, 0).index("ways", 1, 0).due(0, "order", 99, 99);
        x.state("way", 0, 0, 0, 0, 0).state("seek", 0, 0, 0);
    }
}

import java.lang.reflect.Constructor;
import java.lang.reflect.Field;
import java.lang.reflect.Method;
import java.lang.reflect.Modifier;
import java.util.Arrays;
import java.util.TreeSet;

/** The public face, as the document tells it, and nothing besides. */
public final class FaceTest {
    private static final String[] METHODS = {
        "int row(int,int,int)", "int lose(int)", "int put(int,int,int,int)", "long get(int,int)",
        "int copy(int,int,int,int,int)", "int turns(int)", "int type(int)", "int wipe()", "int statement(int)",
        "int refer(int,int,int)", "int place(int,int,int,int,int)", "int guard(int,int,int)", "int mask(int,int)",
        "int undo()", "int info(int,int)", "int reference(int,int,int)", "int section(int,int,int)",
        "int meet(int,int,int,int,int)", "int kinds(int,int)", "int kind(int,int,int,int)", "int many(int,int,int)",
        "int pieces(int,int,int)", "int piece(int,int,int,int,int)", "int verdict(int)", "int would(int,int)",
        "int witness(int,int)", "int last(int,int,int)", "int run()", "int mixed(int,int,int,int)",
        "int same(int,int,int,int)", "int faults(int)", "int ended(int)", "int writer(int,int)", "int count(int)",
        "long digest()"};

    public static void main(String[] args) throws ReflectiveOperationException {
        Class<?> face = StrideTurns.class;
        Check.holds("the class is public and final", Modifier.isPublic(face.getModifiers()) && Modifier.isFinal(face.getModifiers()));
        methods(face);
        constants(face);
        constructors(face);
        classesInside(face);
        Check.end();
    }

    private static String told(Method m) {
        StringBuilder told = new StringBuilder(m.getReturnType() + " " + m.getName() + "(");
        for (Class<?> p : m.getParameterTypes()) {
            told.append(told.charAt(told.length() - 1) == '(' ? "" : ",").append(p);
        }
        return told.append(")").toString();
    }

    private static void methods(Class<?> face) {
        TreeSet<String> found = new TreeSet<>();
        TreeSet<String> names = new TreeSet<>();
        for (Method m : face.getDeclaredMethods()) {
            if (Modifier.isPublic(m.getModifiers())) {
                found.add(told(m));
                names.add(m.getName());
                Check.holds(m.getName() + " is no static method, and declares nothing thrown",
                        !Modifier.isStatic(m.getModifiers()) && m.getExceptionTypes().length == 0);
            } else {
                Check.holds(m.getName() + " is private", Modifier.isPrivate(m.getModifiers()));
            }
        }
        Check.holds("the methods are those of the document: " + found, found.equals(new TreeSet<>(Arrays.asList(METHODS))));
        for (Method m : face.getDeclaredMethods()) {
            Check.holds("no private method is named " + m.getName(),
                    Modifier.isPublic(m.getModifiers()) || !names.contains(m.getName()));
        }
        for (Class<?> inside : face.getDeclaredClasses()) {
            for (Method m : inside.getDeclaredMethods()) {
                Check.holds("no method inside is named " + m.getName(), !names.contains(m.getName()));
                Check.holds(m.getName() + " takes seven parameters at most", m.getParameterCount() <= 7);
            }
        }
    }

    private static void constants(Class<?> face) throws ReflectiveOperationException {
        String[] names = {"NONE", "BAD", "NOT", "FULL"};
        TreeSet<String> found = new TreeSet<>();
        for (Field f : face.getDeclaredFields()) {
            if (Modifier.isPublic(f.getModifiers())) {
                found.add(f.getName());
                Check.holds(f.getName() + " is a constant int", Modifier.isStatic(f.getModifiers())
                        && Modifier.isFinal(f.getModifiers()) && f.getType() == int.class);
            } else {
                Check.holds(f.getName() + " is private", Modifier.isPrivate(f.getModifiers()));
            }
        }
        Check.holds("the constants are those of the document", found.equals(new TreeSet<>(Arrays.asList(names))));
        for (int i = 0; i < names.length; i++) {
            Check.due(0, names[i], face.getField(names[i]).getInt(null), -1 - i);
        }
    }

    private static void constructors(Class<?> face) {
        Constructor<?>[] all = face.getDeclaredConstructors();
        Check.due(1, "constructors", all.length, 1);
        Check.holds("it is public and takes nothing", Modifier.isPublic(all[0].getModifiers()) && all[0].getParameterCount() == 0);
    }

    private static void classesInside(Class<?> face) {
        Check.holds("some twelve classes at most", face.getDeclaredClasses().length <= 12);
        for (Class<?> inside : face.getDeclaredClasses()) {
            Check.holds(inside + " is static and not public", Modifier.isStatic(inside.getModifiers())
                    && !Modifier.isPublic(inside.getModifiers()) && !Modifier.isProtected(inside.getModifiers()));
            fields(inside);
        }
        fields(face);
    }

    private static void fields(Class<?> owner) {
        int own = 0;
        for (Field f : owner.getDeclaredFields()) {
            if (Modifier.isStatic(f.getModifiers())) {
                Class<?> type = f.getType();
                Check.holds(owner + "." + f.getName() + " is a constant that may be", Modifier.isFinal(f.getModifiers())
                        && (type == int.class || type == long.class || type == boolean.class || type == char.class
                        || type == String.class));
            } else {
                own++;
            }
        }
        Check.holds(owner + " has some twenty fields at most", own <= 20);
    }
}

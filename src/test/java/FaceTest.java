import java.lang.reflect.Constructor;
import java.lang.reflect.Field;
import java.lang.reflect.Method;
import java.lang.reflect.Modifier;
import java.util.ArrayList;
import java.util.List;
import java.util.Set;
import java.util.TreeSet;

/** The public face is the document's, and nothing else is to be seen from outside. */
public final class FaceTest {
    private static final String[] METHODS = {
        "int one(int,int,int,int)", "int of(int,int)", "int seat(int,int)", "int know(int,int)",
        "int leave(int,boolean)", "int set(int,int,int)", "int row(int,int,int)", "int feed(int)",
        "int branch()", "int told(int)", "int pass(int)", "int on(int,int)", "int gets(int)",
        "int hears(int,int)", "int best(int,int)", "int swap(int)", "int see(int,int,int)",
        "int can(int,int,int)", "long odds(int,int,int)", "long mean(int,int)", "int plan(int,int)",
        "int ends(int)", "int book(int,int)", "int looked()", "int judge(int,int)", "int image()",
        "int undo()", "int act(int,int,int)", "int trace(int)", "int taken(int,int)", "int count(int)",
        "int tape(int,int,int)", "int item(int,int,long)", "long read(int,int)",
        "int shift(int,int,int,int,int)",
    };

    public static void main(String[] args) {
        Class<?> face = GossipTrain.class;
        Check.holds("public and final", face.getModifiers() == (Modifier.PUBLIC | Modifier.FINAL));
        constants();
        Constructor<?>[] made = face.getDeclaredConstructors();
        Check.due("constructors", made.length, 1);
        Check.holds("public constructor", Modifier.isPublic(made[0].getModifiers()));
        Check.due("constructor's parameters", made[0].getParameterCount(), 0);
        methods(face);
        fields(face);
        for (Class<?> inside : face.getDeclaredClasses()) {
            inside(inside);
        }
        Check.holds("some twelve classes", face.getDeclaredClasses().length < 12);
        Check.end("FaceTest");
    }

    private static void constants() {
        Check.due("NONE", GossipTrain.NONE, -1);
        Check.due("BAD", GossipTrain.BAD, -2);
        Check.due("STATE", GossipTrain.STATE, -3);
        Check.due("FULL", GossipTrain.FULL, -4);
        Check.due("NO", GossipTrain.NO, Long.MIN_VALUE);
    }

    private static void methods(Class<?> face) {
        Set<String> open = new TreeSet<>();
        Set<String> names = new TreeSet<>();
        for (Method method : face.getDeclaredMethods()) {
            if (Modifier.isPublic(method.getModifiers())) {
                Check.due("modifiers of " + method, method.getModifiers(), Modifier.PUBLIC);
                open.add(signature(method));
                names.add(method.getName());
            } else {
                Check.holds("private: " + method, Modifier.isPrivate(method.getModifiers()));
            }
        }
        Check.holds("the document's methods, no other: " + open, open.equals(new TreeSet<>(List.of(METHODS))));
        List<Method> all = new ArrayList<>(List.of(face.getDeclaredMethods()));
        for (Class<?> inside : face.getDeclaredClasses()) {
            all.addAll(List.of(inside.getDeclaredMethods()));
        }
        for (Method method : all) {
            Check.holds("at most seven parameters: " + method, method.getParameterCount() <= 7);
            Check.holds("a name of its own: " + method,
                Modifier.isPublic(method.getModifiers()) || !names.contains(method.getName()));
        }
    }

    private static String signature(Method method) {
        StringBuilder text = new StringBuilder(method.getReturnType() + " " + method.getName() + "(");
        String comma = "";
        for (Class<?> type : method.getParameterTypes()) {
            text.append(comma).append(type);
            comma = ",";
        }
        return text + ")";
    }

    private static void fields(Class<?> type) {
        Set<String> open = new TreeSet<>();
        int own = 0;
        for (Field field : type.getDeclaredFields()) {
            int modifiers = field.getModifiers();
            if (Modifier.isStatic(modifiers)) {
                Check.holds("static is final: " + field, Modifier.isFinal(modifiers));
            } else {
                own++;
            }
            if (!Modifier.isPrivate(modifiers)) {
                open.add(field.getName());
            }
        }
        Check.holds("some twenty fields: " + type, own <= 20);
        boolean isFace = type == GossipTrain.class;
        for (String name : open) {
            constant(type, name);
        }
        Set<String> want = new TreeSet<>(isFace ? List.of("NONE", "BAD", "STATE", "FULL", "NO") : List.of());
        Check.holds("open fields of " + type + ": " + open, open.equals(want));
    }

    private static void constant(Class<?> type, String name) {
        try {
            Field field = type.getDeclaredField(name);
            Check.due("modifiers of " + name, field.getModifiers(), Modifier.PUBLIC | Modifier.STATIC | Modifier.FINAL);
            Check.holds("type of " + name, field.getType() == (name.equals("NO") ? long.class : int.class));
        } catch (NoSuchFieldException e) {
            Check.holds("a field " + name, false);
        }
    }

    private static void inside(Class<?> inside) {
        Check.holds("static: " + inside, Modifier.isStatic(inside.getModifiers()));
        Check.holds("private: " + inside, Modifier.isPrivate(inside.getModifiers()));
        fields(inside);
    }
}

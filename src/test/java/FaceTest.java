import java.lang.reflect.Field;
import java.lang.reflect.Method;
import java.lang.reflect.Modifier;
import java.util.Arrays;
import java.util.HashSet;
import java.util.Set;
import java.util.TreeSet;

/** The public face of the document, and LANGUAGE.md's rule 1: no other member than those and the classes inside. */
public final class FaceTest {
    private static final String[] CALLS = {"int set(int,int)", "int told(int)", "int push(int,int,int)",
        "int pushOf(int,int)", "int go(int)", "int wheel(int)", "long turns(int,int)", "long energy(int)",
        "int feed(int)", "int read()", "int ahead(int,int)", "long energyAt(int)", "int heard(int)", "int beat(int)",
        "int gap(int)", "int longest(int,int)", "int see(int,int)", "int fits(int)", "long odds(int,int)",
        "long mean(int)", "int book(int,int)", "int looked()", "int judge(int,int)", "int image()", "int undo()",
        "int count(int)", "int tape(int,int,int)", "int item(int,int,long)", "long peek(int,int)",
        "int shift(int,int,int,int,int)"};
    private static final String[] CONSTANTS = {"int NONE", "int BAD", "int STATE", "int FULL", "long NO"};

    public static void main(String[] args) {
        classDue();
        constantsDue();
        callsDue();
        classesInsideDue();
        Check.end();
    }

    private static void classDue() {
        Class<WatchBeats> face = WatchBeats.class;
        Check.holds("public", Modifier.isPublic(face.getModifiers()));
        Check.holds("final", Modifier.isFinal(face.getModifiers()));
        Check.due("constructors", face.getDeclaredConstructors().length, 1);
        Check.holds("without arguments", face.getConstructors().length == 1
            && face.getConstructors()[0].getParameterCount() == 0);
    }

    private static void constantsDue() {
        Check.due("NONE", WatchBeats.NONE, -1);
        Check.due("BAD", WatchBeats.BAD, -2);
        Check.due("STATE", WatchBeats.STATE, -3);
        Check.due("FULL", WatchBeats.FULL, -4);
        Check.due("NO", WatchBeats.NO, Long.MIN_VALUE);
        Set<String> found = new TreeSet<>();
        for (Field field : WatchBeats.class.getDeclaredFields()) {
            if (!Modifier.isPrivate(field.getModifiers())) {
                Check.holds(field + " is a constant", field.toString().startsWith("public static final "));
                found.add(field.getType() + " " + field.getName());
            }
            boolean isConstant = Modifier.isStatic(field.getModifiers());
            Check.holds(field + " is final, if static", !isConstant || Modifier.isFinal(field.getModifiers()));
        }
        same("constants", found, CONSTANTS);
    }

    private static void callsDue() {
        Set<String> found = new TreeSet<>();
        Set<String> publicNames = new HashSet<>();
        for (Method method : WatchBeats.class.getDeclaredMethods()) {
            if (!Modifier.isPrivate(method.getModifiers())) {
                Check.due(method + " is public and no more", method.getModifiers(), Modifier.PUBLIC);
                String[] words = method.toString().split("[ ]");
                found.add(method.getReturnType() + " " + words[words.length - 1].replace("WatchBeats.", ""));
                publicNames.add(method.getName());
            }
        }
        same("calls", found, CALLS);
        for (Class<?> owner : allClasses()) {
            for (Method method : owner.getDeclaredMethods()) {
                boolean isOther = owner != WatchBeats.class || Modifier.isPrivate(method.getModifiers());
                Check.holds(method + " has a name of its own", !isOther || !publicNames.contains(method.getName()));
            }
        }
    }

    private static Class<?>[] allClasses() {
        Class<?>[] inside = WatchBeats.class.getDeclaredClasses();
        Class<?>[] all = Arrays.copyOf(inside, inside.length + 1);
        all[inside.length] = WatchBeats.class;
        return all;
    }

    private static void classesInsideDue() {
        Check.holds("some twelve classes at most", allClasses().length <= 12);
        for (Class<?> inside : WatchBeats.class.getDeclaredClasses()) {
            int flags = inside.getModifiers();
            Check.holds(inside + " is static", Modifier.isStatic(flags));
            Check.holds(inside + " is hidden", !Modifier.isPublic(flags) && !Modifier.isProtected(flags));
        }
        for (Class<?> owner : allClasses()) {
            long fields = Arrays.stream(owner.getDeclaredFields())
                .filter(field -> !Modifier.isStatic(field.getModifiers())).count();
            Check.holds(owner + " has some twenty fields at most", fields <= 20);
            for (Method method : owner.getDeclaredMethods()) {
                Check.holds(method + " has seven parameters at most", method.getParameterCount() <= 7);
                Check.holds(method + " was written", !method.isSynthetic());
            }
        }
    }

    private static void same(String what, Set<String> found, String[] want) {
        Set<String> due = new TreeSet<>(Arrays.asList(want));
        Check.holds(what + " " + found + ", due are " + due, found.equals(due));
    }
}

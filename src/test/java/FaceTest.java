import java.lang.reflect.Constructor;
import java.lang.reflect.Field;
import java.lang.reflect.Method;
import java.lang.reflect.Modifier;
import java.util.Arrays;
import java.util.Set;
import java.util.TreeSet;

// 'The public face': every constant, constructor and method of the document, and no other visible member.
public final class FaceTest {
    private static final String[] CONSTANTS = {
        "STACK_CAP=8", "FRAME_CAP=8", "QUEUE_CAP=4", "RESOURCES=8", "ALIVE=1", "DONE=2", "DIED=3", "UNMASKED=0",
        "MASKED=1", "UNINTERRUPTIBLE=2", "F_CATCH=1", "F_MASK=2", "F_BRACKET=3", "NOSTEP=0", "EXECUTED=1",
        "BLOCKED=2", "DELIVERED=3", "E_UNDERFLOW=-1", "E_OVERFLOW=-2", "E_FRAMES=-3", "E_BADRES=-4", "E_BADPC=-5",
        "NOP=0", "PUSH=1", "POP=2", "DUP=3", "ADD=4", "SUB=5", "JMP=6", "JZ=7", "MYID=8", "THROW=9", "THROWTO=10",
        "CATCH=11", "MASK=12", "END=13", "BRACKET=14", "HALT=15"
    };
    private static final String[] METHODS = {
        "boolean load[int, int]", "int spawn[int]", "int step[int]", "boolean throwTo[int, int]",
        "int getThreadCount[]", "int getThread[int, int]", "int getStack[int, int]", "int getFrame[int, int, int]",
        "int getPending[int, int]", "int getResource[int, int]", "int getCodeSize[]", "int getCode[int, int]"
    };

    public static void main(String[] args) throws IllegalAccessException {
        Class<?> face = AsyncMaskVm.class;
        Check.due("public and final", Modifier.toString(face.getModifiers()), "public final");
        Check.due("visible constants", visibleFields(face).toString(), sorted(CONSTANTS).toString());
        Check.due("visible methods", visibleMethods(face).toString(), sorted(METHODS).toString());
        Constructor<?>[] constructors = face.getDeclaredConstructors();
        Check.due("number of constructors", constructors.length, 1);
        Check.due("constructor", constructors[0].toString(), "public AsyncMaskVm(int,int)");
        Check.due("nested classes", face.getDeclaredClasses().length, 0);
        privateNamesDiffer(face);
        Check.end();
    }

    private static Set<String> sorted(String[] lines) {
        return new TreeSet<>(Arrays.asList(lines));
    }

    private static Set<String> visibleFields(Class<?> face) throws IllegalAccessException {
        Set<String> lines = new TreeSet<>();
        for (Field field : face.getDeclaredFields()) {
            if (!Modifier.isPrivate(field.getModifiers())) {
                String modifiers = Modifier.toString(field.getModifiers()) + " " + field.getType();
                Check.due(field.getName(), modifiers, "public static final int");
                lines.add(field.getName() + "=" + field.getInt(null));
            }
        }
        return lines;
    }

    private static Set<String> visibleMethods(Class<?> face) {
        Set<String> lines = new TreeSet<>();
        for (Method method : face.getDeclaredMethods()) {
            if (!Modifier.isPrivate(method.getModifiers())) {
                Check.due(method.getName(), Modifier.toString(method.getModifiers()), "public");
                lines.add(method.getReturnType() + " " + method.getName() + Arrays.toString(method.getParameterTypes()));
            }
        }
        return lines;
    }

    private static void privateNamesDiffer(Class<?> face) {
        Set<String> visible = new TreeSet<>();
        for (Method method : face.getMethods()) {
            visible.add(method.getName());
        }
        for (Method method : face.getDeclaredMethods()) {
            if (Modifier.isPrivate(method.getModifiers())) {
                Check.due("private " + method.getName() + " has a public namesake", visible.contains(method.getName()), false);
            }
        }
    }
}

import java.lang.reflect.Constructor;
import java.lang.reflect.Field;
import java.lang.reflect.Method;
import java.lang.reflect.Modifier;
import java.util.ArrayList;
import java.util.Arrays;
import java.util.List;
import java.util.TreeSet;

/** The public face of the document, to the letter, and no other member that can be seen. */
public final class FaceTest {

    private static final String[] FACE = {
        "public RehearsalRoom()",
        "public int add(int, int, int) throws IllegalArgumentException, IllegalStateException",
        "public int strike(int) throws IndexOutOfBoundsException",
        "public int move(int, int, int) throws IndexOutOfBoundsException, IllegalArgumentException, IllegalStateException",
        "public int changeFame(int, int) throws IndexOutOfBoundsException, IllegalArgumentException",
        "public int changePause(int) throws IllegalArgumentException, IllegalStateException",
        "public int book(int) throws IndexOutOfBoundsException, IllegalStateException",
        "public int cancel(int) throws IndexOutOfBoundsException, IllegalStateException",
        "public int bookBest()",
        "public int append(int) throws IllegalArgumentException, IllegalStateException",
        "public int clearBuffer()",
        "public int firstError()",
        "public int read() throws IllegalArgumentException, IllegalStateException",
        "public void keep(int) throws IllegalArgumentException",
        "public void goBack(int) throws IllegalArgumentException, IllegalStateException",
        "public void undo() throws IllegalStateException",
        "public int savedStates()",
        "public int rehearsals()",
        "public int beginOf(int) throws IndexOutOfBoundsException",
        "public int endOf(int) throws IndexOutOfBoundsException",
        "public int fameOf(int) throws IndexOutOfBoundsException",
        "public float famePerQuarter(int) throws IndexOutOfBoundsException",
        "public boolean isBooked(int) throws IndexOutOfBoundsException",
        "public int pause()",
        "public int booked()",
        "public int bookedFame()",
        "public boolean areInConflict(int, int) throws IndexOutOfBoundsException",
        "public int conflictsOf(int) throws IndexOutOfBoundsException",
        "public int conflictsByPairs()",
        "public int conflictsBySweep()",
        "public int roomsBySweep()",
        "public int roomsByGiving()",
        "public int roomOf(int) throws IndexOutOfBoundsException",
        "public int bestByTrying()",
        "public int bestByTable()",
        "public int bestChoice()",
        "public int mostRehearsals()",
        "public int bestWith(int) throws IndexOutOfBoundsException",
        "public double bookedShare()",
        "public long digest()",
    };

    public static void main(String[] args) {
        Checks checks = new Checks();
        Class<?> room = RehearsalRoom.class;
        checks.dueText("the class", Modifier.toString(room.getModifiers()), "public final");
        TreeSet<String> seen = new TreeSet<>();
        TreeSet<String> publicNames = new TreeSet<>();
        TreeSet<String> privateNames = new TreeSet<>();
        for (Constructor<?> it : room.getDeclaredConstructors()) {
            seen.add(told(it.getModifiers(), "RehearsalRoom", it.getParameterTypes(), it.getExceptionTypes()));
        }
        for (Method it : room.getDeclaredMethods()) {
            if (Modifier.isPrivate(it.getModifiers())) {
                privateNames.add(it.getName());
            } else if (!it.isSynthetic()) {
                publicNames.add(it.getName());
                String name = it.getReturnType().getName() + " " + it.getName();
                seen.add(told(it.getModifiers(), name, it.getParameterTypes(), it.getExceptionTypes()));
            }
        }
        for (Field it : room.getDeclaredFields()) {
            checks.due("private " + it.getName(), Modifier.isPrivate(it.getModifiers()), true);
            checks.due("final if static: " + it.getName(),
                    !Modifier.isStatic(it.getModifiers()) || Modifier.isFinal(it.getModifiers()), true);
        }
        privateNames.retainAll(publicNames);
        checks.dueText("private methods with names of public ones", privateNames.toString(), "[]");
        checks.dueText("the face", String.join("\n", seen), String.join("\n", new TreeSet<>(Arrays.asList(FACE))));
        checks.end();
    }

    private static String told(int modifiers, String name, Class<?>[] parameters, Class<?>[] exceptions) {
        String told = Modifier.toString(modifiers) + " " + name + "(" + names(parameters) + ")";
        return exceptions.length == 0 ? told : told + " throws " + names(exceptions);
    }

    private static String names(Class<?>[] types) {
        List<String> names = new ArrayList<>();
        for (Class<?> type : types) {
            names.add(type.getSimpleName());
        }
        return String.join(", ", names);
    }
}

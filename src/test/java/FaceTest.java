import java.lang.reflect.Constructor;
import java.lang.reflect.Field;
import java.lang.reflect.Method;
import java.lang.reflect.Modifier;
import java.util.Arrays;
import java.util.TreeSet;

/** The public face is the document's, and nothing else of the class can be seen. */
final class FaceTest {
    private static final String[] FACE = {"row 3", "set 3", "copy 5", "element 2", "holds 1", "show 2", "says 3", "paper 3",
        "starts 2", "cand 2", "takes 3", "night 2", "room 1", "hours 1", "turn 1", "feed 1", "wipe 0", "book 0", "candOf 2",
        "paperOf 2", "time 2", "plan 3", "sits 4", "does 3", "measure 3", "best 4", "lawful 2", "watch 1", "duty 2", "pieces 3",
        "roomOf 3", "left 3", "whatIf 2", "both 3", "relief 1", "retime 1", "hoursFor 1", "kinds 3", "judge 4", "together 3",
        "changes 1", "seed 1", "image 0", "back 0", "status 1"};

    public static void main(String[] args) {
        TreeSet<String> seen = new TreeSet<>();
        TreeSet<String> hidden = new TreeSet<>();
        for (Method m : ClashDays.class.getDeclaredMethods()) {
            if (Modifier.isPrivate(m.getModifiers()) || m.isSynthetic()) {
                hidden.add(m.getName());
            } else {
                seen.add(m.getName() + " " + m.getParameterCount());
                Due.due(m + " is public", m.getModifiers(), Modifier.PUBLIC);
                boolean isLong = m.getName().equals("element");
                Due.due(m + " answers a number", m.getReturnType() == (isLong ? long.class : int.class) ? 1 : 0, 1);
            }
        }
        Due.due("the face " + seen, seen.equals(new TreeSet<>(Arrays.asList(FACE))) ? 1 : 0, 1);
        for (String name : FACE) {
            Due.due(name + " is no private name too", hidden.contains(name.split(" ")[0]) ? 1 : 0, 0);
        }
        for (Field f : ClashDays.class.getDeclaredFields()) {
            boolean isNone = f.getName().equals("NONE");
            int open = Modifier.PUBLIC | Modifier.STATIC | Modifier.FINAL;
            Due.due(f + "", isNone ? f.getModifiers() : f.getModifiers() & Modifier.PRIVATE, isNone ? open : Modifier.PRIVATE);
            Due.due(f + " is no free static", Modifier.isStatic(f.getModifiers()) && !Modifier.isFinal(f.getModifiers()) ? 1 : 0, 0);
        }
        Constructor<?>[] made = ClashDays.class.getDeclaredConstructors();
        Due.due("one constructor", made.length, 1);
        Due.due("it is public", made[0].getModifiers(), Modifier.PUBLIC);
        Due.due("it takes nothing", made[0].getParameterCount(), 0);
        Due.due("the class", ClashDays.class.getModifiers() & (Modifier.PUBLIC | Modifier.FINAL), Modifier.PUBLIC | Modifier.FINAL);
        for (Class<?> c : ClashDays.class.getDeclaredClasses()) {
            Due.due(c + " is static", c.getModifiers() & Modifier.STATIC, Modifier.STATIC);
            Due.due(c + " is not open", c.getModifiers() & (Modifier.PUBLIC | Modifier.PROTECTED), 0);
        }
        Due.finish();
    }
}

import java.lang.reflect.Constructor;
import java.lang.reflect.Field;
import java.lang.reflect.Member;
import java.lang.reflect.Method;
import java.lang.reflect.Modifier;
import java.util.Arrays;
import java.util.Set;
import java.util.TreeSet;

/** The face of the document, and LANGUAGE.md's rule 1: nothing but that face can be seen. */
public final class FaceTest {
    private static final String[] FACE = {
        "feed(int,int,int,int,int)int", "hall(int)int", "fault()int", "count(int)int", "amount(int,int)int",
        "colour(int,int)int", "set(int,int,int)boolean", "fill(int,int)boolean", "draw(int)void",
        "jam(int,boolean)boolean", "press(int)boolean", "back()int", "rank()int", "bound(int,int)int",
        "quiet(int,int)int", "sum(int,int)int", "why()int", "solve(int)int", "times(int)int", "apply()int",
        "needed(int)int", "hard(int)int", "nearest()int", "near(int)int", "chase()int", "top()int", "lit(int)int",
        "game()int", "pulse(int)boolean", "round(int)int", "twin(int)int", "keep(int)boolean",
        "take(int,int)boolean"};

    public static void main(String[] args) {
        Check check = new Check("FaceTest");
        Set<String> seen = new TreeSet<>();
        Set<String> names = new TreeSet<>();
        for (Method method : LampHall.class.getDeclaredMethods()) {
            if (!isPrivate(method)) {
                names.add(method.getName());
                StringBuilder row = new StringBuilder(method.getName()).append('(');
                for (Class<?> type : method.getParameterTypes()) {
                    row.append(row.charAt(row.length() - 1) == '(' ? "" : ",").append(type.getName());
                }
                seen.add(row.append(')').append(method.getReturnType().getName()).toString());
            }
        }
        check.due("methods that can be seen", seen, new TreeSet<>(Arrays.asList(FACE)));
        for (Method method : LampHall.class.getDeclaredMethods()) {
            if (isPrivate(method)) {
                check.due("private " + method.getName() + " bears a public name", names.contains(method.getName()), false);
            }
        }
        Set<String> fields = new TreeSet<>();
        for (Field field : LampHall.class.getDeclaredFields()) {
            if (!isPrivate(field)) {
                fields.add(field.getName());
            }
        }
        check.due("fields that can be seen", fields, Set.of("NONE"));
        check.due("NONE", LampHall.NONE, -1);
        Constructor<?>[] constructors = LampHall.class.getDeclaredConstructors();
        check.due("constructors", constructors.length, 1);
        check.due("its parameters", constructors[0].getParameterCount(), 0);
        check.due("final and public", LampHall.class.getModifiers(), Modifier.PUBLIC | Modifier.FINAL);
        check.end();
    }

    private static boolean isPrivate(Member member) {
        return Modifier.isPrivate(member.getModifiers()) || member.isSynthetic();
    }
}

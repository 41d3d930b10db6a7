import java.lang.reflect.Constructor;
import java.lang.reflect.Field;
import java.lang.reflect.Member;
import java.lang.reflect.Method;
import java.lang.reflect.Modifier;
import java.util.ArrayList;
import java.util.Collections;
import java.util.List;

/** The public face, member by member; nothing else may be seen from outside. */
public final class FaceTest {
    private static final String[] FACE = {
        "public RuleHouse()",
        "public boolean RuleHouse.fact(int) throws java.lang.IllegalArgumentException,"
                + "java.lang.IllegalStateException",
        "public boolean RuleHouse.type(long,int)",
        "public int RuleHouse.ask() throws java.lang.IllegalArgumentException,"
                + "java.lang.IllegalStateException",
        "public int RuleHouse.fault(int)",
        "public int RuleHouse.predicate(int,int)",
        "public int RuleHouse.program() throws java.lang.IllegalArgumentException",
        "public int RuleHouse.round(int,int) throws java.util.NoSuchElementException",
        "public int RuleHouse.solve() throws java.lang.IllegalStateException",
        "public int RuleHouse.total(int)",
        "public long RuleHouse.answer(int,int) throws java.util.NoSuchElementException",
        "public long RuleHouse.tuple(int,int,int) throws java.util.NoSuchElementException",
        "public static final int RuleHouse.NONE",
    };

    public static void main(String[] args) {
        List<String> seen = new ArrayList<>();
        for (Constructor<?> one : RuleHouse.class.getDeclaredConstructors()) {
            note(seen, one, one.toString());
        }
        for (Method one : RuleHouse.class.getDeclaredMethods()) {
            note(seen, one, one.toString());
        }
        for (Field one : RuleHouse.class.getDeclaredFields()) {
            note(seen, one, one.toString());
        }
        Collections.sort(seen);
        Checks.same("the face", seen, List.of(FACE));
        Checks.same("final", Modifier.isFinal(RuleHouse.class.getModifiers()), true);
        Checks.same("NONE", RuleHouse.NONE, -1);
        Checks.finish();
    }

    private static void note(List<String> seen, Member member, String text) {
        if (!Modifier.isPrivate(member.getModifiers())) {
            seen.add(text);
        }
    }
}

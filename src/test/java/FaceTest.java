import java.lang.reflect.Constructor;
import java.lang.reflect.Field;
import java.lang.reflect.Member;
import java.lang.reflect.Method;
import java.lang.reflect.Modifier;
import java.util.Arrays;
import java.util.TreeSet;

/** The class has the members of the document's face, and all others are private. */
public final class FaceTest {
    private static final String[] FACE = {
        "public static final int RuleArena.NONE",
        "public RuleArena()",
        "public boolean RuleArena.write(long)",
        "public void RuleArena.wipe()",
        "public int RuleArena.load() throws java.lang.IllegalArgumentException,java.lang.UnsupportedOperationException,"
                + "java.lang.IllegalStateException",
        "public int RuleArena.fault(int)",
        "public int RuleArena.many(int)",
        "public int RuleArena.facts(char,int)",
        "public int RuleArena.moves(int)",
        "public int RuleArena.over()",
        "public int RuleArena.goal(int)",
        "public int RuleArena.letter(int,int,int)",
        "public int RuleArena.play(int,int) throws java.lang.IllegalStateException,java.lang.IndexOutOfBoundsException",
        "public boolean RuleArena.restart()",
        "public int RuleArena.audit() throws java.lang.IllegalStateException",
        "public int RuleArena.worth() throws java.lang.IllegalStateException,java.lang.UnsupportedOperationException",
        "public int RuleArena.best() throws java.lang.IllegalStateException,java.lang.UnsupportedOperationException,"
                + "java.util.NoSuchElementException"
    };

    private static void take(TreeSet<String> seen, Member member) {
        if (!Modifier.isPrivate(member.getModifiers()) && !member.isSynthetic()) {
            seen.add(member.toString());
        }
    }

    public static void main(String[] args) {
        TreeSet<String> seen = new TreeSet<>();
        for (Field field : RuleArena.class.getDeclaredFields()) {
            take(seen, field);
        }
        for (Method method : RuleArena.class.getDeclaredMethods()) {
            take(seen, method);
        }
        for (Constructor<?> constructor : RuleArena.class.getDeclaredConstructors()) {
            take(seen, constructor);
        }
        TreeSet<String> due = new TreeSet<>(Arrays.asList(FACE));
        boolean sealed = Modifier.isFinal(RuleArena.class.getModifiers()) && Modifier.isPublic(RuleArena.class.getModifiers());
        if (!seen.equals(due) || !sealed) {
            System.out.println("the face is " + seen + ", due is " + due + ", public and final: " + sealed);
            System.exit(1);
        }
        System.out.println("the face is as due");
    }
}

import java.lang.reflect.Constructor;
import java.lang.reflect.Field;
import java.lang.reflect.Method;
import java.lang.reflect.Modifier;
import java.util.Set;
import java.util.TreeSet;

/** The section 'The public face': these members, and no others that can be seen. */
public final class FaceTest {
    private static final Set<String> FACE = Set.of(
        "public static final int BottomUpRewriter.BAD_ARG",
        "public static final int BottomUpRewriter.FULL",
        "public static final int BottomUpRewriter.BAD_STACK",
        "public static final int BottomUpRewriter.NONE",
        "public BottomUpRewriter()",
        "public int BottomUpRewriter.build(int)",
        "public int BottomUpRewriter.depth()",
        "public void BottomUpRewriter.discard()",
        "public int BottomUpRewriter.rule()",
        "public int BottomUpRewriter.unrule()",
        "public int BottomUpRewriter.rules()",
        "public int BottomUpRewriter.subject()",
        "public int BottomUpRewriter.size()",
        "public int BottomUpRewriter.symbol(int)",
        "public int BottomUpRewriter.fits(int)",
        "public int BottomUpRewriter.redexes()",
        "public int BottomUpRewriter.step()",
        "public int BottomUpRewriter.run(int)",
        "public int BottomUpRewriter.sizeAt(int)",
        "public boolean BottomUpRewriter.same(int,int)",
        "public int BottomUpRewriter.digest()");

    public static void main(String[] args) {
        Class<?> c = BottomUpRewriter.class;
        Check.due("public and final", c.getModifiers(), Modifier.PUBLIC | Modifier.FINAL);
        Check.due("extends no other class", c.getSuperclass() == Object.class, true);
        Check.due("interfaces", c.getInterfaces().length, 0);
        Check.due("classes inside", c.getDeclaredClasses().length, 0);
        Set<String> seen = new TreeSet<>();
        for (Field f : c.getDeclaredFields()) {
            addIfSeen(seen, f.getModifiers(), f.toString());
        }
        for (Constructor<?> k : c.getDeclaredConstructors()) {
            addIfSeen(seen, k.getModifiers(), k.toString());
        }
        for (Method m : c.getDeclaredMethods()) {
            addIfSeen(seen, m.getModifiers(), m.toString());
        }
        for (String member : FACE) {
            Check.due("has " + member, seen.contains(member), true);
        }
        for (String member : seen) {
            Check.due("the face has " + member, FACE.contains(member), true);
        }
        Check.due("BAD_ARG", BottomUpRewriter.BAD_ARG, -1);
        Check.due("FULL", BottomUpRewriter.FULL, -2);
        Check.due("BAD_STACK", BottomUpRewriter.BAD_STACK, -3);
        Check.due("NONE", BottomUpRewriter.NONE, -4);
        Check.finish("FaceTest");
    }

    private static void addIfSeen(Set<String> seen, int modifiers, String member) {
        if (!Modifier.isPrivate(modifiers)) {
            seen.add(member);
        }
    }
}

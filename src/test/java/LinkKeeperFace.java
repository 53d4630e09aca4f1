import java.lang.reflect.Constructor;
import java.lang.reflect.Field;
import java.lang.reflect.Method;
import java.lang.reflect.Modifier;
import java.util.Arrays;
import java.util.Set;
import java.util.TreeSet;

/** The face: what can be seen of the class from outside is what the document names, and no more. */
public final class LinkKeeperFace {
    private static final Set<String> DUE = new TreeSet<>(Arrays.asList(
        "public static final int NONE",
        "public LinkKeeper()",
        "public int record()",
        "public int link(int, int, int)",
        "public int change(int, int)",
        "public int broken(int, int)",
        "public int repair(int)",
        "public int chain(int, int)",
        "public int ring(int)",
        "public int host(int)",
        "public int move(int, int)",
        "public int delete(int)",
        "public int times(int, int)",
        "public int orphan(int)",
        "public int house(int)",
        "public int goes(int, int, int)"));

    public static void main(String[] args) {
        Set<String> seen = new TreeSet<>();
        Set<String> open = new TreeSet<>();
        Set<String> hidden = new TreeSet<>();
        for (Field f : LinkKeeper.class.getDeclaredFields()) {
            if (!Modifier.isPrivate(f.getModifiers())) {
                seen.add(head(f.getModifiers()) + f.getType().getSimpleName() + " " + f.getName());
            }
        }
        for (Constructor<?> c : LinkKeeper.class.getDeclaredConstructors()) {
            if (!Modifier.isPrivate(c.getModifiers())) {
                seen.add(head(c.getModifiers()) + "LinkKeeper" + list(c.getParameterTypes()));
            }
        }
        for (Method m : LinkKeeper.class.getDeclaredMethods()) {
            if (Modifier.isPrivate(m.getModifiers())) {
                hidden.add(m.getName());
            } else {
                open.add(m.getName());
                seen.add(head(m.getModifiers()) + m.getReturnType().getSimpleName() + " "
                    + m.getName() + list(m.getParameterTypes()));
            }
        }
        hidden.retainAll(open);
        boolean right = seen.equals(DUE) && hidden.isEmpty()
            && Modifier.toString(LinkKeeper.class.getModifiers()).equals("public final")
            && LinkKeeper.class.getPackageName().isEmpty() && LinkKeeper.NONE == -1;
        if (!right) {
            System.out.println("the face is " + Modifier.toString(LinkKeeper.class.getModifiers())
                + " with " + seen + ", due is public final with " + DUE
                + "; private methods with the name of a public one: " + hidden);
            System.exit(1);
        }
        System.out.println("the face is as due");
    }

    private static String head(int modifiers) {
        String words = Modifier.toString(modifiers);
        return words.isEmpty() ? "" : words + " ";
    }

    private static String list(Class<?>[] types) {
        StringBuilder b = new StringBuilder("(");
        for (Class<?> t : types) {
            b.append(b.length() > 1 ? ", " : "").append(t.getSimpleName());
        }
        return b.append(")").toString();
    }
}

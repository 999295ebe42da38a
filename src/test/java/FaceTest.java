import java.lang.reflect.Constructor;
import java.lang.reflect.Field;
import java.lang.reflect.Method;
import java.lang.reflect.Modifier;
import java.util.Set;
import java.util.TreeSet;

/** The class has the document's face and nothing else that can be seen from outside. */
public final class FaceTest {
    private static final String[] FACE = {
        "public PathOdds()",
        "public boolean PathOdds.states(int)",
        "public int PathOdds.size()",
        "public boolean PathOdds.start(int,double)",
        "public boolean PathOdds.move(int,int,double)",
        "public boolean PathOdds.show(int,int,double)",
        "public boolean PathOdds.read(int)",
        "public boolean PathOdds.unread()",
        "public int PathOdds.length()",
        "public double PathOdds.forward(int,int)"
            + " throws java.lang.IndexOutOfBoundsException,java.lang.IllegalArgumentException",
        "public double PathOdds.backward(int,int)"
            + " throws java.lang.IndexOutOfBoundsException,java.lang.IllegalArgumentException",
        "public double PathOdds.total()",
        "public double PathOdds.best()",
        "public int PathOdds.bestState(int)",
        "public double PathOdds.share(int,int) throws java.lang.IndexOutOfBoundsException,"
            + "java.lang.IllegalArgumentException,java.lang.ArithmeticException",
        "public long PathOdds.possible()"};

    public static void main(String[] args) {
        Set<String> seen = new TreeSet<>();
        Set<String> open = new TreeSet<>();
        Set<String> hidden = new TreeSet<>();
        for (Constructor<?> c : PathOdds.class.getDeclaredConstructors()) {
            seen.add(c.toString());
        }
        for (Method m : PathOdds.class.getDeclaredMethods()) {
            if (Modifier.isPrivate(m.getModifiers())) {
                hidden.add(m.getName());
            } else {
                seen.add(m.toString());
                open.add(m.getName());
            }
        }
        Due.same("the face", seen, new TreeSet<>(Set.of(FACE)));
        hidden.retainAll(open);
        Due.same("private methods with a public one's name", hidden, new TreeSet<String>());
        for (Field f : PathOdds.class.getDeclaredFields()) {
            Due.yes("private: " + f, Modifier.isPrivate(f.getModifiers()));
            Due.yes("static only if final: " + f,
                !Modifier.isStatic(f.getModifiers()) || Modifier.isFinal(f.getModifiers()));
        }
        int modifiers = PathOdds.class.getModifiers();
        Due.yes("public and final", Modifier.isPublic(modifiers) && Modifier.isFinal(modifiers));
        Due.end();
    }
}

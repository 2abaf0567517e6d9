import java.lang.reflect.Constructor;
import java.lang.reflect.Field;
import java.lang.reflect.Method;
import java.lang.reflect.Modifier;
import java.util.Set;
import java.util.TreeSet;

/** LANGUAGE.md's rules 1 and 5: the document's face and nothing else seen from outside, constants alone static. */
public final class FaceTest {
    private static final Set<String> FACE = Set.of("sign", "read", "field", "overlap", "layout", "screen",
        "fill", "octet", "take", "differ", "program", "group", "told");

    private static final Set<String> SIGNATURES = Set.of("public void MapText.sign(int)", "public int MapText.read()",
        "public int MapText.field(int,int,int)", "public int MapText.overlap(int,int)",
        "public int MapText.layout(int,int,int)", "public int MapText.screen(int,int,int)",
        "public int MapText.fill(int,int,int)",
        "public byte MapText.octet(int) throws java.lang.ArrayIndexOutOfBoundsException",
        "public int MapText.take(int,byte)", "public int MapText.differ(int)", "public int MapText.program(int,int)",
        "public int MapText.group(int,int)", "public int MapText.told(int)");

    public static void main(String[] args) {
        Set<String> seen = new TreeSet<>();
        for (Method m : MapText.class.getDeclaredMethods()) {
            if (Modifier.isPrivate(m.getModifiers())) {
                Check.due("private method named as of the face: " + m, FACE.contains(m.getName()) ? 1 : 0, 0);
            } else {
                Check.due("public: " + m, Modifier.isPublic(m.getModifiers()) ? 1 : 0, 1);
                seen.add(m.toString());
            }
        }
        Check.due("the methods", seen.toString(), new TreeSet<>(SIGNATURES).toString());
        for (Field f : MapText.class.getDeclaredFields()) {
            boolean none = f.getName().equals("NONE") && Modifier.isPublic(f.getModifiers());
            Check.due("private: " + f, none || Modifier.isPrivate(f.getModifiers()) ? 1 : 0, 1);
            if (Modifier.isStatic(f.getModifiers())) {
                Check.due("final: " + f, Modifier.isFinal(f.getModifiers()) ? 1 : 0, 1);
                Check.due("an int: " + f, f.getType() == int.class ? 1 : 0, 1);
            }
        }
        Constructor<?>[] made = MapText.class.getDeclaredConstructors();
        Check.due("constructors", made.length, 1);
        Check.due("its parameters", made[0].getParameterCount(), 0);
        Check.due("the constructor is public", Modifier.isPublic(made[0].getModifiers()) ? 1 : 0, 1);
        Check.due("the class is final", Modifier.isFinal(MapText.class.getModifiers()) ? 1 : 0, 1);
        for (Class<?> inside : MapText.class.getDeclaredClasses()) {
            Check.due("static: " + inside, Modifier.isStatic(inside.getModifiers()) ? 1 : 0, 1);
            for (Method m : inside.getDeclaredMethods()) {
                Check.due("named as of the face: " + m, FACE.contains(m.getName()) ? 1 : 0, 0);
            }
        }
        Check.end();
    }
}

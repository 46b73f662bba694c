import java.lang.reflect.Constructor;
import java.lang.reflect.Field;
import java.lang.reflect.Member;
import java.lang.reflect.Method;
import java.lang.reflect.Modifier;
import java.util.Set;
import java.util.TreeSet;

/** 'The public face': every constant, constructor and method of the document, and no other. */
public final class FaceTest extends Bench {
    private static final Set<String> FACE = Set.of(
        "public static final int HoleFair.NONE",
        "public HoleFair()",
        "public boolean HoleFair.ice(int,int,int)",
        "public int HoleFair.feed(int,int,int,int,int)",
        "public int HoleFair.law(int)",
        "public int HoleFair.cut(int,int,int,int,int,int)",
        "public boolean HoleFair.shut(int)",
        "public int HoleFair.group(int,int,int)",
        "public int HoleFair.settle()",
        "public int HoleFair.minutes(int)",
        "public int HoleFair.run(int,int)",
        "public int HoleFair.square(int,int,int)",
        "public int HoleFair.holeIs(int,int)",
        "public int HoleFair.groupIs(int,int)",
        "public int HoleFair.draws(int,int)",
        "public int HoleFair.sound(int,int)",
        "public int HoleFair.places(int,int)",
        "public int HoleFair.closing(int,int,int)",
        "public int HoleFair.rescue(int,int,int,int)",
        "public int HoleFair.began(int,int)",
        "public int HoleFair.fee(int,int,int)",
        "public int HoleFair.row(int,int)",
        "public boolean HoleFair.seed(int)",
        "public int HoleFair.draw(int)",
        "public int HoleFair.keep()",
        "public boolean HoleFair.undo()",
        "public int HoleFair.check(int,int)",
        "public int HoleFair.count(int)");

    public static void main(String[] args) {
        about("The public face");
        Set<String> open = new TreeSet<>();
        for (Field one : HoleFair.class.getDeclaredFields()) {
            addIfOpen(open, one, one.toString());
        }
        for (Constructor<?> one : HoleFair.class.getDeclaredConstructors()) {
            addIfOpen(open, one, one.toString());
        }
        for (Method one : HoleFair.class.getDeclaredMethods()) {
            addIfOpen(open, one, one.toString());
        }
        for (String one : FACE) {
            due(one, open.contains(one), true);
        }
        for (String one : open) {
            due(one, FACE.contains(one), true);
        }
        due("public", Modifier.isPublic(HoleFair.class.getModifiers()), true);
        due("final", Modifier.isFinal(HoleFair.class.getModifiers()), true);
        due("of nothing but Object", HoleFair.class.getSuperclass() == Object.class, true);
        due("interfaces", HoleFair.class.getInterfaces().length, 0);
        due("in no package", HoleFair.class.getPackageName().isEmpty(), true);
        for (Class<?> inside : HoleFair.class.getDeclaredClasses()) {
            int m = inside.getModifiers();
            due("inside " + inside, Modifier.isStatic(m) && !Modifier.isPublic(m) && !Modifier.isProtected(m), true);
        }
        end();
    }

    private static void addIfOpen(Set<String> open, Member one, String text) {
        if (!Modifier.isPrivate(one.getModifiers()) && !one.isSynthetic()) {
            open.add(text);
        }
    }
}

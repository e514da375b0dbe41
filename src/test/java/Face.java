import java.lang.reflect.Constructor;
import java.lang.reflect.Field;
import java.lang.reflect.Method;
import java.lang.reflect.Modifier;
import java.util.Set;
import java.util.TreeSet;

/** The public face of the document: the class has its members, and no other that is not private. */
public final class Face {
    public static void main(String[] args) {
        Set<String> due = new TreeSet<>(Set.of(
            "public static final int SerialPlant.NONE",
            "public SerialPlant()",
            "public boolean SerialPlant.attach(int,int,int)",
            "public boolean SerialPlant.power(int,boolean)",
            "public boolean SerialPlant.process(int,int,int,int)",
            "public int SerialPlant.cell(int,int,int)",
            "public int SerialPlant.point(int,int,int)",
            "public int SerialPlant.request(int,int,int,int,long)",
            "public boolean SerialPlant.fault(int,boolean,int)",
            "public int SerialPlant.tick()",
            "public long SerialPlant.reply(int,int)",
            "public int SerialPlant.line(int,int)",
            "public int SerialPlant.wire(int,boolean,int)",
            "public int SerialPlant.sample(int,int)",
            "public int SerialPlant.samples(int,int,int)"));
        Set<String> seen = openMembers();
        for (String member : due) {
            Due.yes("has " + member, seen.contains(member));
        }
        for (String member : seen) {
            Due.yes("may have " + member, due.contains(member));
        }
        int modifiers = SerialPlant.class.getModifiers();
        Due.yes("is public", Modifier.isPublic(modifiers));
        Due.yes("is final", Modifier.isFinal(modifiers));
        Due.end();
    }

    private static Set<String> openMembers() {
        Set<String> seen = new TreeSet<>();
        for (Field field : SerialPlant.class.getDeclaredFields()) {
            if (!Modifier.isPrivate(field.getModifiers())) {
                seen.add(field.toString());
            }
        }
        for (Constructor<?> constructor : SerialPlant.class.getDeclaredConstructors()) {
            if (!Modifier.isPrivate(constructor.getModifiers())) {
                seen.add(constructor.toString());
            }
        }
        for (Method method : SerialPlant.class.getDeclaredMethods()) {
            if (!Modifier.isPrivate(method.getModifiers())) {
                seen.add(method.toString());
            }
        }
        return seen;
    }
}

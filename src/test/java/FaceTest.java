import java.lang.reflect.Constructor;
import java.lang.reflect.Field;
import java.lang.reflect.Method;
import java.lang.reflect.Modifier;
import java.util.Set;
import java.util.TreeSet;

/** The class has the document's face and nothing else that can be seen (rules 1 and 5 of LANGUAGE.md). */
public final class FaceTest {
    private static final Set<String> FACE = Set.of(
        "int feed(int,int,int,int,int)", "int net(int)", "int table(int,int)", "int parity(int)",
        "int identity(int,boolean)", "int made(int)", "int plain(int)", "int like(int,int)", "int rank(int,int)",
        "int base(int,int)", "int based(int,int,int)", "int fits(int,int)", "int first(int)", "int seek(int)",
        "int node(int,int)", "int wire(int,int)", "int open(int)", "int sum(int)", "int total()", "int ways(int)",
        "int within(int)", "int width(int)", "boolean change(int,int)", "boolean plug(int,int)",
        "boolean scale(int,int)", "boolean swap(int,int,int)", "int join(int,int,int,int)", "int cut(int)",
        "int undo()", "boolean keep(int,boolean)", "int count(int)");

    private static int wrong = 0;

    public static void main(String[] args) {
        check("the class is public and final",
            Modifier.isPublic(HoloNet.class.getModifiers()) && Modifier.isFinal(HoloNet.class.getModifiers()));
        methods();
        for (Constructor<?> c : HoloNet.class.getDeclaredConstructors()) {
            check("constructor " + c, Modifier.isPublic(c.getModifiers()) && c.getParameterCount() == 0);
        }
        fields(HoloNet.class);
        for (Class<?> inner : HoloNet.class.getDeclaredClasses()) {
            check(inner + " is static", Modifier.isStatic(inner.getModifiers()));
            fields(inner);
        }
        System.out.println(wrong == 0 ? "the face is as due" : wrong + " faults of the face");
        if (wrong != 0) {
            System.exit(1);
        }
    }

    private static void check(String what, boolean good) {
        if (!good) {
            wrong++;
            System.out.println("not so: " + what);
        }
    }

    private static void methods() {
        Set<String> seen = new TreeSet<>();
        Set<String> names = new TreeSet<>();
        for (Method m : HoloNet.class.getDeclaredMethods()) {
            if (Modifier.isPublic(m.getModifiers())) {
                seen.add(signature(m));
                names.add(m.getName());
            } else {
                check(m + " is private", Modifier.isPrivate(m.getModifiers()));
            }
        }
        check("public methods are those of the document: " + seen, seen.equals(new TreeSet<>(FACE)));
        for (Class<?> inner : HoloNet.class.getDeclaredClasses()) {
            for (Method m : inner.getDeclaredMethods()) {
                check(m + " has a name of its own", !names.contains(m.getName()));
            }
        }
    }

    private static String signature(Method m) {
        StringBuilder text = new StringBuilder(m.getReturnType().getName()).append(' ').append(m.getName()).append('(');
        for (Class<?> type : m.getParameterTypes()) {
            text.append(text.charAt(text.length() - 1) == '(' ? "" : ",").append(type.getName());
        }
        return text.append(')').toString();
    }

    private static void fields(Class<?> of) {
        for (Field f : of.getDeclaredFields()) {
            boolean isStatic = Modifier.isStatic(f.getModifiers());
            check(f + " is final if static", !isStatic || Modifier.isFinal(f.getModifiers()));
            if (of == HoloNet.class) {
                check(f + " is private", Modifier.isPrivate(f.getModifiers()) || f.getName().equals("NONE"));
            }
        }
    }
}

import java.lang.reflect.Constructor;
import java.lang.reflect.Field;
import java.lang.reflect.Method;
import java.lang.reflect.Modifier;
import java.util.Set;
import java.util.TreeSet;

/** The public face, member by member, and what rules 1, 2, 5 and 11 of LANGUAGE.md say of members. */
public final class FaceTest {
    private static final String[] FACE = {"int road(int,int,int)", "int away(int,int)", "int word(int,int,int,int,int)", "int read(int)",
        "int is(int,int)", "int keep(int)", "int type(int,int)", "int wipe(int)", "int fault(int)", "int law(int,int)", "int heard(int,int)",
        "int ordered(int,int,int)", "int head(int,int)", "int orders(int,int)", "int strikes(int,int,int)", "int sound(int,int)",
        "int least(int)", "int full(int,int)", "int firm(int,int)", "int ring()", "int chain(int)", "int hangs(int)", "int most()",
        "int brings(int,int)", "int part()", "int sheet(int,int,int)", "int lose(int)", "int put(int,int,int,int)", "int get(int,int,int)",
        "int copy(int,int,int,int,int)", "int write(int)", "int count(int)", "long digest()"};
    private static int wrong = 0;

    public static void main(String[] args) throws Exception {
        Class<?> c = HeardWords.class;
        check(Modifier.isPublic(c.getModifiers()) && Modifier.isFinal(c.getModifiers()), "the class is public and final");
        check(c.getSuperclass() == Object.class && c.getInterfaces().length == 0, "it extends and implements nothing");
        Constructor<?>[] constructors = c.getDeclaredConstructors();
        check(constructors.length == 1 && Modifier.isPublic(constructors[0].getModifiers()) && constructors[0].getParameterCount() == 0,
            "one public constructor without parameters");
        methods(c);
        constants(c);
        for (Class<?> inside : c.getDeclaredClasses()) {
            check(Modifier.isStatic(inside.getModifiers()) && !Modifier.isPublic(inside.getModifiers())
                && !Modifier.isProtected(inside.getModifiers()), inside + " is static, and private or package-visible");
            members(inside);
        }
        members(c);
        check(c.getDeclaredClasses().length < 12, "at most twelve classes");
        System.out.println(wrong == 0 ? "FaceTest: the face is as told" : wrong + " things are not as told");
        if (wrong != 0) {
            System.exit(1);
        }
    }

    private static void check(boolean so, String what) {
        if (!so) {
            wrong++;
            System.out.println("not so: " + what);
        }
    }

    private static String named(Method m) {
        StringBuilder text = new StringBuilder(m.getReturnType() + " " + m.getName() + "(");
        for (Class<?> p : m.getParameterTypes()) {
            text.append(text.charAt(text.length() - 1) == '(' ? "" : ",").append(p.getName());
        }
        return text.append(")").toString();
    }

    private static void methods(Class<?> c) {
        Set<String> want = new TreeSet<>(Set.of(FACE));
        Set<String> got = new TreeSet<>();
        for (Method m : c.getDeclaredMethods()) {
            if (Modifier.isPublic(m.getModifiers())) {
                got.add(named(m));
                check(!Modifier.isStatic(m.getModifiers()), m + " is not static");
            } else {
                check(Modifier.isPrivate(m.getModifiers()), m + " is public or private");
            }
        }
        check(got.equals(want), "public methods " + got + " are " + want);
    }

    private static void constants(Class<?> c) throws Exception {
        String[] names = {"NONE", "BAD", "NOT", "FULL"};
        for (int i = 0; i < names.length; i++) {
            Field f = c.getField(names[i]);
            check(Modifier.isStatic(f.getModifiers()) && Modifier.isFinal(f.getModifiers()) && f.getInt(null) == -1 - i, names[i] + " is " + (-1 - i));
        }
        check(c.getFields().length == names.length, "no other public field");
        for (Field f : c.getDeclaredFields()) {
            check(Modifier.isPublic(f.getModifiers()) || Modifier.isPrivate(f.getModifiers()), f + " is public or private");
        }
    }

    /** Of every class, the outer one too. */
    private static void members(Class<?> c) {
        Set<String> face = new TreeSet<>();
        for (String member : FACE) {
            face.add(member.substring(member.indexOf(' ') + 1, member.indexOf('(')));
        }
        for (Method m : c.getDeclaredMethods()) {
            check(m.getParameterCount() <= 7, m + " has at most seven parameters");
            check(Modifier.isPublic(m.getModifiers()) || !face.contains(m.getName()), m + " bears a public name");
        }
        int fields = 0;
        for (Field f : c.getDeclaredFields()) {
            check(!Modifier.isStatic(f.getModifiers()) || Modifier.isFinal(f.getModifiers()), f + " is final if static");
            fields += Modifier.isStatic(f.getModifiers()) ? 0 : 1;
        }
        check(fields <= 20, c + " has at most twenty fields");
    }
}

import java.lang.reflect.Constructor;
import java.lang.reflect.Field;
import java.lang.reflect.Member;
import java.lang.reflect.Method;
import java.lang.reflect.Modifier;
import java.util.Set;
import java.util.TreeSet;

/** The public face, and promise 1: what a new object is. */
public final class FaceTest {
    private static final String[] METHODS = {
        "int feed(long)", "int end(int)", "int text()", "int fault()", "int rule(int)", "int lanes(int)",
        "int join(int,int,boolean)", "int start(int)", "int far(int,int)", "int fox(int)", "int go(int)",
        "int smell(int)", "int now(int)", "int smelt(int,int,int)", "int forget(int)", "int ways(int)",
        "int can(int,int)", "int sure(int,int)", "int way(int,int)", "int cannot()",
        "int doubt(int,int,int,int)", "int post(int,int,int,int)", "int casts(int,int,int)", "int need()",
        "int left(int,int)", "int caught(int,int,int)", "int flees(int,int,int)", "int best(int)",
        "int open(int,int)", "int stop(int,int,int)", "int season(int,int,int)", "int keep(int)",
        "int back(int)", "int sheet(int,int,int)", "int lay(int,int,int)", "int read(int,int,int,int)",
        "int torn()", "int count(int)",
    };

    public static void main(String[] args) {
        Check check = new Check("face");
        face(check);
        inside(check);
        newObject(check);
        check.done();
    }

    private static String told(Method m) {
        StringBuilder b = new StringBuilder(m.getReturnType().getName()).append(' ').append(m.getName()).append('(');
        for (Class<?> c : m.getParameterTypes()) {
            b.append(b.charAt(b.length() - 1) == '(' ? "" : ",").append(c.getName());
        }
        return b.append(')').toString();
    }

    private static void face(Check check) {
        Set<String> due = new TreeSet<>(Set.of(METHODS));
        Set<String> got = new TreeSet<>();
        for (Method m : HuntedScent.class.getDeclaredMethods()) {
            if (!Modifier.isPrivate(m.getModifiers())) {
                got.add(told(m));
                check.holds(told(m) + " is public and of an object", m.getModifiers() == Modifier.PUBLIC);
            }
        }
        check.holds("the methods are " + due + ", not " + got, due.equals(got));
        int constructors = HuntedScent.class.getDeclaredConstructors().length;
        check.due("constructors", constructors, 1);
        for (Constructor<?> c : HuntedScent.class.getConstructors()) {
            check.due("parameters of the constructor", c.getParameterCount(), 0);
        }
        int constants = 0;
        for (Field f : HuntedScent.class.getDeclaredFields()) {
            if (!Modifier.isPrivate(f.getModifiers())) {
                constants++;
                check.holds(f + " is a constant", f.getModifiers() == (Modifier.PUBLIC | Modifier.STATIC | Modifier.FINAL));
            }
        }
        check.due("constants", constants, 4);
        check.due("BAD", HuntedScent.BAD, -1);
        check.due("STATE", HuntedScent.STATE, -2);
        check.due("FULL", HuntedScent.FULL, -3);
        check.due("NONE", HuntedScent.NONE, -4);
        check.due("the class", HuntedScent.class.getModifiers(), Modifier.PUBLIC | Modifier.FINAL);
    }

    /** Rules 1, 2, 5 and 11 of the language, as far as they can be seen from outside. */
    private static void inside(Check check) {
        Set<String> publicNames = new TreeSet<>();
        for (String m : METHODS) {
            publicNames.add(m.substring(4, m.indexOf('(')));
        }
        Class<?>[] inside = HuntedScent.class.getDeclaredClasses();
        check.holds("at most twelve classes", inside.length + 1 <= 12);
        members(check, HuntedScent.class, publicNames);
        for (Class<?> c : inside) {
            check.holds(c + " is private and static", Modifier.isPrivate(c.getModifiers()) && Modifier.isStatic(c.getModifiers()));
            members(check, c, publicNames);
        }
    }

    private static void members(Check check, Class<?> c, Set<String> publicNames) {
        for (Method m : c.getDeclaredMethods()) {
            boolean isFace = c == HuntedScent.class && Modifier.isPublic(m.getModifiers());
            check.holds(m + " has a name of its own", isFace || !publicNames.contains(m.getName()));
            check.holds(m + " has at most seven parameters", m.getParameterCount() <= 7);
        }
        int fields = 0;
        for (Field f : c.getDeclaredFields()) {
            fields += Modifier.isStatic(f.getModifiers()) ? 0 : 1;
            check.holds(f + " is final, if static", !isLooseStatic(f));
        }
        check.holds(c + " has at most twenty fields", fields <= 20);
    }

    private static boolean isLooseStatic(Member f) {
        return Modifier.isStatic(f.getModifiers()) && !Modifier.isFinal(f.getModifiers());
    }

    private static void newObject(Check check) {
        HuntedScent x = new HuntedScent();
        check.due("nodes", x.rule(0), 5);
        check.due("lanes", x.rule(1), 0);
        check.due("rest", x.rule(2), 0);
        check.due("start", x.rule(3), HuntedScent.NONE);
        check.due("water", x.rule(4), 0);
        check.due("holes", x.rule(5), 0);
        check.due("fault", x.fault(), 0);
        check.due("torn", x.torn(), 0);
        check.due("the fox", x.now(0), HuntedScent.NONE);
        check.due("moves", x.now(1), 0);
        check.due("smells", x.now(3), 0);
        check.due("smelt", x.count(0), 0);
        check.due("nodes with a smell", x.count(1), 0);
        check.due("images", x.count(2), 0);
        check.due("the tape", x.count(3), 0);
        check.due("sheet 0", x.count(4), HuntedScent.NONE);
        check.due("image 0", x.back(0), HuntedScent.STATE);
        check.due("image 1", x.back(1), HuntedScent.STATE);
        for (int k = 0; k < 4; k++) {
            check.due("sheet " + k, x.lay(k, 0, 0), -11);
        }
        HuntedScent y = new HuntedScent();
        y.join(0, 1, true);
        check.due("another object is its own", x.rule(1), 0);
    }
}

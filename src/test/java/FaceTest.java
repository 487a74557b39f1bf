import java.lang.reflect.Constructor;
import java.lang.reflect.Field;
import java.lang.reflect.Method;
import java.lang.reflect.Modifier;
import java.util.Arrays;
import java.util.NoSuchElementException;
import java.util.Set;
import java.util.TreeSet;

/** Promise 1, a new object; and the public face, with nothing beside it. */
public final class FaceTest {
    private static final Set<String> FACE = new TreeSet<>(Arrays.asList(
            "boolean type(long,int)", "int rule(int,int)", "int states(int)", "int next(int,int,int)",
            "int winner(int,int)", "int distance(int)", "boolean never(int)", "int differ(int,int)",
            "int differing(int,int,int)", "boolean begin(int)", "int feed(int,int)", "boolean end()",
            "int ready()", "int token(int)", "void take()", "int stream(int)"));

    private static final Check CHECK = new Check();

    public static void main(String[] args) throws NoSuchMethodException {
        face();
        told("token", NoSuchElementException.class, IndexOutOfBoundsException.class);
        told("take", NoSuchElementException.class);
        members();
        partsAreMadeAlone();
        classesAreSmall();
        newObject();
        objectsAreApart();
        CHECK.close();
    }

    private static void told(String name, Class<?>... due) throws NoSuchMethodException {
        Class<?>[] parameters = name.equals("token") ? new Class<?>[] {int.class} : new Class<?>[0];
        Class<?>[] told = TokenBench.class.getMethod(name, parameters).getExceptionTypes();
        CHECK.yes(name + " tells of " + Arrays.toString(told), Arrays.equals(told, due));
    }

    private static void face() {
        Set<String> found = new TreeSet<>();
        Set<String> names = new TreeSet<>();
        for (Method method : TokenBench.class.getDeclaredMethods()) {
            if (Modifier.isPublic(method.getModifiers())) {
                String parameters = Arrays.toString(method.getParameterTypes()).replaceAll("[\\[\\] ]", "");
                found.add(method.getReturnType() + " " + method.getName() + "(" + parameters + ")");
                CHECK.yes(method.getName() + " is new in its name", names.add(method.getName()));
            }
        }
        CHECK.yes("the face is " + found, found.equals(FACE));
        CHECK.yes("the class is final", Modifier.isFinal(TokenBench.class.getModifiers()));
        CHECK.same("NONE", TokenBench.NONE, -1);
    }

    private static void members() {
        for (Method method : TokenBench.class.getDeclaredMethods()) {
            int how = method.getModifiers();
            CHECK.yes(method.getName() + " is public or private",
                    Modifier.isPublic(how) || Modifier.isPrivate(how) || method.isSynthetic());
        }
        for (Field field : TokenBench.class.getDeclaredFields()) {
            boolean isNone = field.getName().equals("NONE");
            CHECK.yes(field.getName() + " is hidden", isNone || Modifier.isPrivate(field.getModifiers()));
        }
        Constructor<?>[] constructors = TokenBench.class.getDeclaredConstructors();
        CHECK.same("constructors", constructors.length, 1);
        CHECK.yes("the constructor is public", Modifier.isPublic(constructors[0].getModifiers()));
        for (Class<?> inside : TokenBench.class.getDeclaredClasses()) {
            int how = inside.getModifiers();
            CHECK.yes(inside + " is static", Modifier.isStatic(how));
            CHECK.no(inside + " is public", Modifier.isPublic(how) || Modifier.isProtected(how));
        }
    }

    /** LANGUAGE.md, rule 12: while an object is made, nothing of it is handed to another. */
    private static void partsAreMadeAlone() {
        for (Field field : TokenBench.class.getDeclaredFields()) {
            if (field.getType().getEnclosingClass() == TokenBench.class) {
                for (Constructor<?> constructor : field.getType().getDeclaredConstructors()) {
                    CHECK.same("what " + field.getName() + " is made of", constructor.getParameterCount(), 0);
                }
            }
        }
    }

    /** LANGUAGE.md, rules 1 and 11: how many classes, fields and parameters, and which names. */
    private static void classesAreSmall() {
        Class<?>[] inside = TokenBench.class.getDeclaredClasses();
        CHECK.yes(inside.length + " classes inside", inside.length < 12);
        classIsSmall(TokenBench.class);
        for (Class<?> one : inside) {
            classIsSmall(one);
        }
    }

    private static void classIsSmall(Class<?> one) {
        Set<String> face = new TreeSet<>();
        for (Method method : TokenBench.class.getMethods()) {
            face.add(method.getName());
        }
        long fields = Arrays.stream(one.getDeclaredFields()).filter(f -> !Modifier.isStatic(f.getModifiers())).count();
        CHECK.yes(one.getSimpleName() + " has " + fields + " fields", fields <= 20);
        for (Method method : one.getDeclaredMethods()) {
            CHECK.yes(method + " has few parameters", method.getParameterCount() <= 7);
            boolean isHidden = Modifier.isPrivate(method.getModifiers());
            CHECK.no(method + " bears a public name", isHidden && face.contains(method.getName()));
        }
        for (Field field : one.getDeclaredFields()) {
            int how = field.getModifiers();
            CHECK.yes(field + " does not change", !Modifier.isStatic(how) || Modifier.isFinal(how));
        }
    }

    private static void newObject() {
        TokenBench x = new TokenBench();
        for (int mode = 0; mode < 3; mode++) {
            CHECK.same("states of no rules", x.states(mode), 1);
            CHECK.same("winner of no rules", x.winner(mode, 0), -1);
            CHECK.same("next of no rules", x.next(mode, 0, 0), -1);
            CHECK.same("distance of no rules", x.distance(mode), 0);
            CHECK.same("differ of no rules", x.differ(0, mode), -1);
        }
        CHECK.no("never of no rule", x.never(0));
        CHECK.same("ready", x.ready(), 0);
        CHECK.same("token", Bench.token(x, 0), Bench.NO_SUCH_ELEMENT);
        CHECK.same("take", Bench.take(x), Bench.NO_SUCH_ELEMENT);
        for (int what = 0; what < 4; what++) {
            CHECK.same("stream " + what, x.stream(what), -1);
        }
        CHECK.same("feed", x.feed(0, 1), -1);
        CHECK.no("end", x.end());
        CHECK.same("the tape is empty", x.rule(0, 0), -2);
        CHECK.same("the first rule", Bench.rule(x, "a", 0), 0);
    }

    private static void objectsAreApart() {
        TokenBench x = Bench.with("a");
        TokenBench y = new TokenBench();
        x.begin(0);
        x.type('a', 1);
        CHECK.same("states of another object", y.states(0), 1);
        CHECK.same("stream of another object", y.stream(1), -1);
        CHECK.same("tape of another object", y.rule(0, 0), -2);
    }
}

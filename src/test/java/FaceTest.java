import java.io.IOException;
import java.lang.reflect.Constructor;
import java.lang.reflect.Executable;
import java.lang.reflect.Field;
import java.lang.reflect.Method;
import java.lang.reflect.Modifier;
import java.nio.file.Files;
import java.nio.file.Path;
import java.util.Set;
import java.util.TreeSet;
import java.util.regex.Pattern;

/** The public face as the document tells it, and what of LANGUAGE.md can be seen from outside. */
public final class FaceTest {
    private static final String[] FACE = {
        "int write(int,long)", "int wipe()", "int fault()", "int lay()", "int far(int,int)",
        "int person(int,int)", "int feed(int)", "int pass(int)", "int undo()", "int calf(int,int)",
        "int goal(int,int)", "int noGoals()", "int price()", "int first()", "int bars()",
        "int game(int,int,int,int)", "int seen(int,int)", "int forget()", "long how()",
        "int sure(int)", "long chance(int,int,int)", "int year(int,int,int)", "int keep()",
        "int back()", "int count(int)"
    };

    private static final String[] FOREIGN = {
        "\\bcatch\\b", "\\bfinally\\b", "\\bassert\\b", "\\bsynchronized\\b", "->", "::", "\\bvar\\b",
        "\\bSystem\\.(?!arraycopy)", "\\bThread\\b", "\\bRandom\\b", "Exact\\b", "\\bstatic \\{",
        "\\bimport (?!java\\.util\\.Arrays;)", "\\bpackage\\b", "\\bnative\\b", "\\btransient\\b"
    };

    private final Checks checks = new Checks();

    public static void main(String[] args) throws IOException {
        FaceTest test = new FaceTest();
        test.constants();
        test.methods();
        test.nothingElse();
        test.classesInside();
        test.source();
        test.checks.end("FaceTest");
    }

    private void constants() {
        checks.due("BAD", FollowingCalf.BAD, -1);
        checks.due("NO", FollowingCalf.NO, -2);
        checks.due("FULL", FollowingCalf.FULL, -3);
        checks.due("NONE", FollowingCalf.NONE, -4);
    }

    private static String told(Method m) {
        StringBuilder types = new StringBuilder();
        for (Class<?> type : m.getParameterTypes()) {
            types.append(types.length() == 0 ? "" : ",").append(type.getName());
        }
        return m.getReturnType().getName() + " " + m.getName() + "(" + types + ")";
    }

    private void methods() {
        Set<String> due = new TreeSet<>(Set.of(FACE));
        Set<String> got = new TreeSet<>();
        for (Method m : FollowingCalf.class.getDeclaredMethods()) {
            if (Modifier.isPublic(m.getModifiers())) {
                got.add(told(m));
                checks.due(m + " is not static", !Modifier.isStatic(m.getModifiers()));
            }
        }
        checks.due("the methods " + got, got.equals(due));
    }

    private void nothingElse() {
        int modifiers = FollowingCalf.class.getModifiers();
        checks.due("public and final", Modifier.isPublic(modifiers) && Modifier.isFinal(modifiers));
        Constructor<?>[] constructors = FollowingCalf.class.getDeclaredConstructors();
        checks.due("constructors", constructors.length, 1);
        checks.due("constructor's parameters", constructors[0].getParameterCount(), 0);
        Set<String> constants = Set.of("BAD", "NO", "FULL", "NONE");
        for (Field f : FollowingCalf.class.getDeclaredFields()) {
            boolean isConstant = constants.contains(f.getName());
            checks.due(f + " is " + (isConstant ? "public" : "private"),
                    isConstant ? Modifier.isPublic(f.getModifiers()) : Modifier.isPrivate(f.getModifiers()));
        }
        for (Method m : FollowingCalf.class.getDeclaredMethods()) {
            boolean isFace = Set.of(FACE).contains(told(m));
            checks.due(m + " is private or of the face", isFace || Modifier.isPrivate(m.getModifiers()));
        }
    }

    private void classesInside() {
        Set<String> names = new TreeSet<>();
        for (String line : FACE) {
            names.add(line.substring(line.indexOf(' ') + 1, line.indexOf('(')));
        }
        Class<?>[] inside = FollowingCalf.class.getDeclaredClasses();
        checks.due("at most twelve classes", inside.length + 1 <= 12);
        for (Class<?> c : inside) {
            checks.due(c + " is static", Modifier.isStatic(c.getModifiers()));
            checks.due(c + " is not public", !Modifier.isPublic(c.getModifiers()));
            for (Method m : c.getDeclaredMethods()) {
                checks.due(m + " bears no name of the face", !names.contains(m.getName()));
                fewParameters(m);
            }
            for (Field f : c.getDeclaredFields()) {
                int modifiers = f.getModifiers();
                checks.due(f + " static is final", !Modifier.isStatic(modifiers) || Modifier.isFinal(modifiers));
            }
        }
        for (Method m : FollowingCalf.class.getDeclaredMethods()) {
            fewParameters(m);
            checks.due(m + " private bears no name of the face",
                    !Modifier.isPrivate(m.getModifiers()) || !names.contains(m.getName()));
        }
    }

    private void fewParameters(Executable e) {
        checks.due(e + " has seven parameters at most", e.getParameterCount() <= 7);
    }

    private void source() throws IOException {
        String source = Files.readString(Path.of("src/main/java/FollowingCalf.java"));
        for (String foreign : FOREIGN) {
            checks.due("the source has no " + foreign, !Pattern.compile(foreign).matcher(source).find());
        }
    }
}

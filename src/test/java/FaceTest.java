import java.lang.reflect.Constructor;
import java.lang.reflect.Field;
import java.lang.reflect.Member;
import java.lang.reflect.Method;
import java.lang.reflect.Modifier;
import java.util.Arrays;
import java.util.List;
import java.util.Set;
import java.util.TreeSet;
import java.util.stream.Collectors;

/** The public face is the document's, and nothing else of the class can be seen from outside. */
public final class FaceTest {
    private static final List<String> FACE = List.of(
            "void append(char) IllegalStateException",
            "int define() IllegalArgumentException IllegalStateException",
            "int faultPosition()",
            "void removeAxiom(int) IndexOutOfBoundsException",
            "void removeContext(int) IndexOutOfBoundsException",
            "int count(int) IllegalArgumentException",
            "int size() UnsupportedOperationException",
            "int sizeOf(int) IllegalArgumentException UnsupportedOperationException",
            "double density(int) IllegalArgumentException UnsupportedOperationException",
            "boolean isUsed(int) IndexOutOfBoundsException UnsupportedOperationException",
            "boolean isRedundant(int) IndexOutOfBoundsException UnsupportedOperationException",
            "int minimalContexts() UnsupportedOperationException",
            "boolean canFollow(int,int) IndexOutOfBoundsException UnsupportedOperationException",
            "int shortestLoop(int) IndexOutOfBoundsException UnsupportedOperationException NoSuchElementException",
            "boolean isConfluent() UnsupportedOperationException",
            "void clearWord()",
            "void addLetter(char) IllegalArgumentException IllegalStateException",
            "void takeAxiom(int) IndexOutOfBoundsException",
            "void takeWord(int) UnsupportedOperationException IndexOutOfBoundsException",
            "int wordLength()",
            "char letterAt(int) IndexOutOfBoundsException",
            "boolean isGenerated() UnsupportedOperationException",
            "int rank() UnsupportedOperationException NoSuchElementException",
            "int derivationLength() UnsupportedOperationException NoSuchElementException",
            "int derivationStep(int,int) IllegalArgumentException UnsupportedOperationException NoSuchElementException IndexOutOfBoundsException",
            "long derivations() UnsupportedOperationException",
            "int insertions()",
            "int insert(int) IndexOutOfBoundsException",
            "int reductions()",
            "int reduce(int) IndexOutOfBoundsException",
            "int normalForms()",
            "void normalize(int) IndexOutOfBoundsException",
            "void allocate(int,int,int) IndexOutOfBoundsException IllegalArgumentException",
            "void store(int,int,int) IndexOutOfBoundsException IllegalStateException",
            "int element(int,int) IndexOutOfBoundsException IllegalStateException",
            "int compareSizes(int) IndexOutOfBoundsException UnsupportedOperationException IllegalStateException IllegalArgumentException",
            "void save()",
            "void restore() IllegalStateException");

    public static void main(String[] args) {
        Check check = new Check();
        Class<?> type = ContextualGrammarLab.class;
        check.is("public and final", Modifier.PUBLIC | Modifier.FINAL, type::getModifiers);
        Set<String> face = new TreeSet<>();
        Set<String> hidden = new TreeSet<>();
        for (Method method : type.getDeclaredMethods()) {
            if (Modifier.isPublic(method.getModifiers())) {
                face.add(signature(method));
                check.is("no static " + method.getName(), false, () -> Modifier.isStatic(method.getModifiers()));
            } else {
                hidden.add(method.getName());
                isPrivate(check, method);
            }
        }
        check.is("the face", new TreeSet<>(FACE), () -> face);
        Set<String> names = Arrays.stream(type.getMethods()).map(Method::getName).collect(Collectors.toSet());
        hidden.retainAll(names);
        check.is("private methods with a public name", "[]", () -> hidden);
        check.is("constructors", 1, () -> type.getDeclaredConstructors().length);
        for (Constructor<?> constructor : type.getDeclaredConstructors()) {
            check.is("constructor", "public ContextualGrammarLab()", constructor::toString);
        }
        for (Field field : type.getDeclaredFields()) {
            isPrivate(check, field);
        }
        for (Class<?> inner : type.getDeclaredClasses()) {
            boolean fits = Modifier.isStatic(inner.getModifiers()) && !Modifier.isPublic(inner.getModifiers());
            check.is(inner.getName() + " is static and not public", true, () -> fits);
        }
        check.end("FaceTest");
    }

    private static void isPrivate(Check check, Member member) {
        check.is(member.getName() + " is private", true, () -> Modifier.isPrivate(member.getModifiers()));
    }

    private static String signature(Method method) {
        String parameters = Arrays.stream(method.getParameterTypes()).map(Class::getSimpleName).collect(Collectors.joining(","));
        String exceptions = Arrays.stream(method.getExceptionTypes()).map(e -> " " + e.getSimpleName()).collect(Collectors.joining());
        return method.getReturnType().getSimpleName() + " " + method.getName() + "(" + parameters + ")" + exceptions;
    }
}

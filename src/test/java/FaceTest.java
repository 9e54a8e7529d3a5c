import java.lang.reflect.Constructor;
import java.lang.reflect.Field;
import java.lang.reflect.Method;
import java.lang.reflect.Modifier;
import java.util.TreeSet;

/** The face is the document's and no more, and an object keeps within the room. */
public final class FaceTest {
    private static final String[] FACE = {
        "int feed(int,int,int,int,int)", "int end(int)", "int add()", "int build()", "int clear()",
        "int seek()", "int found(int)", "int most(int)", "int near(int)", "int matched()",
        "int suffix(int)", "int rank(int)", "int common(int,int)", "int repeat(int)",
        "int shared(int)", "long pieces()", "int piece(long)", "int single(int)",
        "int phrases(int)", "long phrase(int,int)", "int out(int)", "int at(int)",
        "int count(int)"};

    public static void main(String[] args) throws Exception {
        face();
        hiddenMembers();
        insideClasses();
        room();
        Check.finish("FaceTest");
    }

    private static void face() {
        TreeSet<String> want = new TreeSet<>(java.util.List.of(FACE));
        TreeSet<String> got = new TreeSet<>();
        TreeSet<String> hiddenNames = new TreeSet<>();
        TreeSet<String> openNames = new TreeSet<>();
        for (Method method : SuffixIndex.class.getDeclaredMethods()) {
            if (Modifier.isPrivate(method.getModifiers())) {
                hiddenNames.add(method.getName());
            } else {
                got.add(text(method));
                openNames.add(method.getName());
                Check.holds(method + " is public", Modifier.isPublic(method.getModifiers()));
                Check.holds(method + " is no static one", !Modifier.isStatic(method.getModifiers()));
            }
        }
        Check.same("the face", got.toString(), want.toString());
        hiddenNames.retainAll(openNames);
        Check.same("private methods with public names", hiddenNames.toString(), "[]");
        Check.holds("the class is final", Modifier.isFinal(SuffixIndex.class.getModifiers()));
        Constructor<?>[] constructors = SuffixIndex.class.getDeclaredConstructors();
        Check.same("constructors", constructors.length, 1);
        Check.same("parameters of the constructor", constructors[0].getParameterCount(), 0);
        Check.holds("the constructor is public", Modifier.isPublic(constructors[0].getModifiers()));
    }

    private static String text(Method method) {
        StringBuilder text = new StringBuilder();
        for (Class<?> parameter : method.getParameterTypes()) {
            text.append(text.length() == 0 ? "" : ",").append(parameter.getName());
        }
        return method.getReturnType().getName() + " " + method.getName() + "(" + text + ")";
    }

    private static void hiddenMembers() {
        for (Field field : SuffixIndex.class.getDeclaredFields()) {
            Check.holds(field + " is private", Modifier.isPrivate(field.getModifiers()));
        }
    }

    private static void insideClasses() {
        Class<?>[] inside = SuffixIndex.class.getDeclaredClasses();
        Check.holds("at most twelve classes", inside.length + 1 <= 12);
        for (Class<?> one : inside) {
            int modifiers = one.getModifiers();
            Check.holds(one + " is static", Modifier.isStatic(modifiers));
            Check.holds(one + " is not open", !Modifier.isPublic(modifiers) && !Modifier.isProtected(modifiers));
            Check.holds(one + " has at most twenty fields", one.getDeclaredFields().length <= 20);
            for (Field field : one.getDeclaredFields()) {
                Check.holds(field + " is no static one that can change",
                        !Modifier.isStatic(field.getModifiers()) || Modifier.isFinal(field.getModifiers()));
            }
        }
    }

    private static void room() throws Exception {
        Room fresh = Room.of(new SuffixIndex());
        Check.holds("a new object is small: " + fresh, fresh.objects < 100 && fresh.elements < 300000);
        SuffixIndex used = Texts.built("banana", "ananas", "banda");
        Texts.seek(used, "ana");
        used.near(3);
        used.matched();
        used.phrases(2);
        used.shared(2);
        used.piece(5);
        Room later = Room.of(used);
        Check.same("objects after some calls", later.objects, fresh.objects);
        Check.same("elements after some calls", later.elements, fresh.elements);
    }
}

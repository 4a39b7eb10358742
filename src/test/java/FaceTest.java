import java.lang.reflect.Executable;
import java.lang.reflect.Field;
import java.lang.reflect.Method;
import java.lang.reflect.Modifier;
import java.util.Arrays;
import java.util.Set;
import java.util.TreeSet;

/** The document's face, and the rules of LANGUAGE.md that the compiled class shows. */
final class FaceTest {
    private static final String FACE = """
        public LineAssembler()
        public boolean feed(long,int)
        public int clear()
        public int assemble()
        public int size(int) throws IllegalStateException,IllegalArgumentException
        public int byteAt(int) throws IndexOutOfBoundsException
        public int address(int) throws IndexOutOfBoundsException
        public char letter(int,int) throws IndexOutOfBoundsException
        public int line(int)
        public int before(int)
        """;

    public static void main(String[] args) {
        testFace();
        for (Class<?> inside : LineAssembler.class.getDeclaredClasses()) {
            testInside(inside);
        }
        int classes = 1 + LineAssembler.class.getDeclaredClasses().length;
        Check.same("more than some twelve classes", classes > 12 ? classes : 0, 0);
        Check.end();
    }

    private static void testFace() {
        Check.says("public final class LineAssembler");
        Class<?> face = LineAssembler.class;
        Check.same("the class", Modifier.toString(face.getModifiers()), "public final");
        Check.same("its name", face.getName(), "LineAssembler");
        Check.same("what it extends", face.getSuperclass().getName(), "java.lang.Object");
        Check.same("what it implements", face.getInterfaces().length, 0);

        Check.says("The public face");
        Set<String> due = new TreeSet<>(Arrays.asList(FACE.split("\n")));
        Set<String> got = new TreeSet<>();
        addSeen(got, face.getDeclaredConstructors());
        addSeen(got, face.getDeclaredMethods());
        Check.same("members", String.join("\n", got), String.join("\n", due));
        for (Field field : face.getDeclaredFields()) {
            testField(field);
            Check.same(field + " is private", Modifier.isPrivate(field.getModifiers()) ? 1 : 0, 1);
        }
        testParameters(face);
    }

    private static void addSeen(Set<String> all, Executable[] members) {
        for (Executable member : members) {
            if (!Modifier.isPrivate(member.getModifiers())) {
                String whole = member.toString().replace("LineAssembler.", "");
                all.add(whole.replace("java.lang.", ""));
            }
        }
    }

    private static void testInside(Class<?> inside) {
        Check.says("classes inside it, which are private or package-visible and static");
        int modifiers = inside.getModifiers();
        Check.same(inside + " is static", Modifier.isStatic(modifiers) ? 1 : 0, 1);
        boolean seen = Modifier.isPublic(modifiers) || Modifier.isProtected(modifiers);
        Check.same(inside + " is seen", seen ? 1 : 0, 0);

        Check.says("No private method bears the name of a public one");
        for (Method method : inside.getDeclaredMethods()) {
            boolean borne = FACE.contains(" " + method.getName() + "(");
            Check.same(method + " bears a name of the face", borne ? 1 : 0, 0);
        }
        int fields = 0;
        for (Field field : inside.getDeclaredFields()) {
            testField(field);
            fields += Modifier.isStatic(field.getModifiers()) ? 0 : 1;
        }
        Check.says("a class some twenty fields beside its constants");
        Check.same(inside + " has more fields", fields > 20 ? fields : 0, 0);
        testParameters(inside);
    }

    private static void testField(Field field) {
        Check.says("Static fields are final");
        int modifiers = field.getModifiers();
        boolean kept = !Modifier.isStatic(modifiers) || Modifier.isFinal(modifiers);
        Check.same(field + " is kept", kept ? 1 : 0, 1);
    }

    private static void testParameters(Class<?> owner) {
        Check.says("A method takes at most seven parameters");
        for (Method method : owner.getDeclaredMethods()) {
            int many = method.getParameterCount();
            Check.same(method + " takes more", many > 7 ? many : 0, 0);
        }
    }
}

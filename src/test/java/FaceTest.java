import java.lang.reflect.Constructor;
import java.lang.reflect.Field;
import java.lang.reflect.Method;
import java.lang.reflect.Modifier;
import java.util.Arrays;
import java.util.HashSet;
import java.util.Set;
import java.util.TreeSet;

/** The public face of the document, and those rules of LANGUAGE.md that reflection can see. */
public final class FaceTest {
    private static final Set<String> CONSTANTS = new TreeSet<>(Arrays.asList(
            "BAD_TX=-1", "BAD_KEY=-2", "IDLE=-3", "ACTIVE=-4", "BUSY=-5", "LATE=-6", "ABSENT=-7",
            "FULL=-8", "UNSAFE=-9"));

    private static final Set<String> METHODS = new TreeSet<>(Arrays.asList(
            "int begin[int, boolean]", "int put[int, int, int]", "int remove[int, int]",
            "int get[int, int]", "int save[int]", "int undo[int]", "int commit[int]",
            "int abort[int]", "int crash[]", "void vacuum[]", "int size[int]",
            "int find[int, int]", "int committed[int]", "int committedSize[]"));

    public static void main(String[] args) throws IllegalAccessException {
        classIsPublicAndFinal();
        constantsAreTheDocuments();
        constructorIsTheDocuments();
        methodsAreTheDocuments();
        fieldsKeepToTheLanguage();
        Check.finish();
    }

    private static void classIsPublicAndFinal() {
        Check.due("modifiers", VersionHeap.class.getModifiers(), Modifier.PUBLIC | Modifier.FINAL);
        Check.due("nested classes", VersionHeap.class.getDeclaredClasses().length, 0);
        Check.due("interfaces", VersionHeap.class.getInterfaces().length, 0);
    }

    private static void constantsAreTheDocuments() throws IllegalAccessException {
        Set<String> seen = new TreeSet<>();
        for (Field field : VersionHeap.class.getDeclaredFields()) {
            if (!Modifier.isPrivate(field.getModifiers())) {
                Check.due(field.getName() + "'s modifiers", field.getModifiers(),
                        Modifier.PUBLIC | Modifier.STATIC | Modifier.FINAL);
                Check.holds(field.getName() + " is an int", field.getType() == int.class);
                seen.add(field.getName() + "=" + field.get(null));
            }
        }
        Check.holds("constants " + seen + " are " + CONSTANTS, seen.equals(CONSTANTS));
    }

    private static void constructorIsTheDocuments() {
        Constructor<?>[] all = VersionHeap.class.getDeclaredConstructors();
        Check.due("constructors", all.length, 1);
        Check.due("the constructor's parameters", all[0].getParameterCount(), 0);
        Check.due("the constructor's modifiers", all[0].getModifiers(), Modifier.PUBLIC);
    }

    private static void methodsAreTheDocuments() {
        Set<String> seen = new TreeSet<>();
        Set<String> publicNames = new HashSet<>();
        Set<String> privateNames = new HashSet<>();
        for (Method method : VersionHeap.class.getDeclaredMethods()) {
            if (Modifier.isPrivate(method.getModifiers())) {
                privateNames.add(method.getName());
                continue;
            }
            publicNames.add(method.getName());
            Check.due(method.getName() + "'s modifiers", method.getModifiers(), Modifier.PUBLIC);
            seen.add(method.getReturnType() + " " + method.getName()
                    + Arrays.toString(method.getParameterTypes()));
        }
        Check.holds("methods " + seen + " are " + METHODS, seen.equals(METHODS));
        privateNames.retainAll(publicNames);
        Check.holds("no private method has a public one's name: " + privateNames,
                privateNames.isEmpty());
    }

    private static void fieldsKeepToTheLanguage() {
        int fields = 0;
        for (Field field : VersionHeap.class.getDeclaredFields()) {
            Class<?> type = field.getType();
            if (Modifier.isStatic(field.getModifiers())) {
                Check.holds(field.getName() + " is a constant of int or long",
                        Modifier.isFinal(field.getModifiers())
                                && (type == int.class || type == long.class));
            } else {
                fields++;
                Class<?> plain = type.isArray() ? type.getComponentType() : type;
                Check.holds(field.getName() + " is of whole numbers or booleans",
                        plain.isPrimitive() && plain != float.class && plain != double.class);
            }
        }
        Check.holds(fields + " fields are at most forty", fields <= 40);
    }
}

import java.lang.reflect.Constructor;
import java.lang.reflect.Field;
import java.lang.reflect.Method;
import java.lang.reflect.Modifier;
import java.util.TreeSet;

/** The class shows the face of the document and nothing else. */
public final class FaceTest {
    private static final String[] FACE = {
        "int add(int,int,int)", "int remove(int,int,int)", "int pattern(int,int,int)",
        "void clear()", "int solutions()", "int solution(int,int)", "int with(int,int)",
        "int values(int)", "int count(int,int,int)", "int has(int,int,int)",
    };

    private static final Check check = new Check();

    public static void main(String[] args) {
        check.isTrue("the class is public and final",
                TripleJoin.class.getModifiers() == (Modifier.PUBLIC | Modifier.FINAL));
        check.isTrue("no nested class", TripleJoin.class.getDeclaredClasses().length == 0);
        constructor();
        methods();
        fields();
        check.end();
    }

    private static void constructor() {
        Constructor<?>[] all = TripleJoin.class.getDeclaredConstructors();
        check.due("number of constructors", all.length, 1);
        check.due("parameters of the constructor", all[0].getParameterCount(), 0);
        check.isTrue("the constructor is public", all[0].getModifiers() == Modifier.PUBLIC);
    }

    private static void methods() {
        TreeSet<String> shown = new TreeSet<>();
        TreeSet<String> shownNames = new TreeSet<>();
        TreeSet<String> hiddenNames = new TreeSet<>();
        for (Method method : TripleJoin.class.getDeclaredMethods()) {
            if (Modifier.isPrivate(method.getModifiers())) {
                hiddenNames.add(method.getName());
            } else {
                check.isTrue(method + " is public alone", method.getModifiers() == Modifier.PUBLIC);
                shown.add(signature(method));
                shownNames.add(method.getName());
            }
        }
        check.isTrue("the face is the document's: " + shown,
                shown.equals(new TreeSet<>(java.util.List.of(FACE))));
        hiddenNames.retainAll(shownNames);
        check.isTrue("no private method bears a public name: " + hiddenNames, hiddenNames.isEmpty());
    }

    private static String signature(Method method) {
        StringBuilder text = new StringBuilder(method.getReturnType() + " " + method.getName() + "(");
        String comma = "";
        for (Class<?> type : method.getParameterTypes()) {
            text.append(comma).append(type);
            comma = ",";
        }
        return text.append(")").toString();
    }

    private static void fields() {
        for (Field field : TripleJoin.class.getDeclaredFields()) {
            check.isTrue(field + " is private", Modifier.isPrivate(field.getModifiers()));
            Class<?> type = field.getType();
            if (Modifier.isStatic(field.getModifiers())) {
                check.isTrue(field + " is a constant", Modifier.isFinal(field.getModifiers())
                        && (type == int.class || type == long.class));
            } else {
                check.isTrue(field + " is a number, a boolean or a row of them", type.isPrimitive()
                        || type.isArray() && type.getComponentType().isPrimitive());
            }
        }
    }
}

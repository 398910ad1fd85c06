import java.lang.reflect.Constructor;
import java.lang.reflect.Field;
import java.lang.reflect.Method;
import java.lang.reflect.Modifier;
import java.util.Set;
import java.util.TreeSet;

/** The class has the document's public face, and no other member that can be seen from outside. */
public final class FaceTest {
    private static final String[] METHODS = {
        "int party()", "int agreement(int,int,int,int)", "int article(int,int,int)", "boolean clock(int)",
        "int sign(int,int)", "int ratify(int,int)", "int join(int,int)", "int reserve(int,int,int,int)",
        "int object(int,int,boolean)", "int withdraw(int,int)", "int change(int,int,int,int)", "int consent(int,int)",
        "int follow(int,int,int,boolean)", "int note(long)", "int undo()", "int between(int,int,int,int,int,int)",
        "int words(int,int,int,int,int,int)", "int why(int,int,int,int,int,int,int)", "int first(int,int,int,int)",
        "int member(int,int,int,int)", "int members(int,int,int)", "int since(int)", "int has(int,int,int,int,int)",
        "int paper(int,int)", "long noted(int)", "int annex(int,int,int)", "boolean tear(int,int)",
        "int write(int,int,int,long)", "long read(int,int,int)", "int size(int,int)",
        "int copy(int,int,int,int,int,int,int)", "int count(int)"};

    public static void main(String[] args) {
        Check check = new Check();
        Set<String> due = new TreeSet<>(Set.of(METHODS));
        Set<String> publicNames = new TreeSet<>();
        for (String method : METHODS) {
            publicNames.add(method.substring(method.indexOf(' ') + 1, method.indexOf('(')));
        }
        Set<String> seen = new TreeSet<>();
        for (Method method : TreatyHouse.class.getDeclaredMethods()) {
            if (!Modifier.isPrivate(method.getModifiers())) {
                check.due(method + " is public", Modifier.isPublic(method.getModifiers()), true);
                seen.add(signature(method));
            } else {
                check.due(method + " has a name of its own", publicNames.contains(method.getName()), false);
            }
        }
        check.due("the methods " + seen, seen.equals(due), true);
        for (Field field : TreatyHouse.class.getDeclaredFields()) {
            boolean isPrivate = Modifier.isPrivate(field.getModifiers());
            check.due(field + " is private or NONE", isPrivate || field.getName().equals("NONE"), true);
            boolean isStatic = Modifier.isStatic(field.getModifiers());
            check.due(field + " is final if static", !isStatic || Modifier.isFinal(field.getModifiers()), true);
        }
        Constructor<?>[] constructors = TreatyHouse.class.getDeclaredConstructors();
        check.due("constructors", constructors.length, 1);
        check.due("its parameters", constructors[0].getParameterCount(), 0);
        check.due("it is public", Modifier.isPublic(constructors[0].getModifiers()), true);
        check.due("the class is public and final",
            TreatyHouse.class.getModifiers(), Modifier.PUBLIC | Modifier.FINAL);
        check.due("NONE", TreatyHouse.NONE, -1);
        check.end();
    }

    private static String signature(Method method) {
        StringBuilder text = new StringBuilder();
        text.append(method.getReturnType().getName()).append(' ').append(method.getName()).append('(');
        String comma = "";
        for (Class<?> parameter : method.getParameterTypes()) {
            text.append(comma).append(parameter.getName());
            comma = ",";
        }
        return text.append(')').toString();
    }
}

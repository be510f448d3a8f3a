import java.lang.reflect.Constructor;
import java.lang.reflect.Field;
import java.lang.reflect.Method;
import java.lang.reflect.Modifier;
import java.util.ArrayList;
import java.util.Collections;
import java.util.List;

/** The public face is the document's, and nothing else can be seen of the class. */
public final class FaceTest {
    private static final String FACE = "add():int answer(int):int back():boolean changed(int):int!SA count(int):int "
        + "feed(long,long,long):int find(int):int hyphens():int keep():int!S labelled():int length(int,int):int!SO "
        + "letter(int):int lines(int):int!SO origin(int,int):int!SO pages():int!S replace(int):int!A set():int "
        + "sign(int,int,int):int!SO style(int,int,int):int!SO tell():int write():int";

    public static void main(String[] args) {
        List<String> face = new ArrayList<>();
        for (Method method : TypeRoom.class.getDeclaredMethods()) {
            if (!Modifier.isPrivate(method.getModifiers())) {
                face.add(told(method));
                Desk.same("public: " + method, true, Modifier.isPublic(method.getModifiers()));
            }
        }
        Collections.sort(face);
        Desk.same("methods", FACE, String.join(" ", face));
        for (Field field : TypeRoom.class.getDeclaredFields()) {
            boolean constant = field.getName().equals("NONE");
            Desk.same("field " + field.getName(), !constant, Modifier.isPrivate(field.getModifiers()));
            boolean fixed = !Modifier.isStatic(field.getModifiers()) || Modifier.isFinal(field.getModifiers());
            Desk.same("static and not final: " + field.getName(), true, fixed);
        }
        Constructor<?>[] constructors = TypeRoom.class.getDeclaredConstructors();
        Desk.same("constructors", 1, constructors.length);
        Desk.same("without parameters", 0, constructors[0].getParameterCount());
        Desk.same("public", true, Modifier.isPublic(constructors[0].getModifiers()));
        Desk.same("final", true, Modifier.isFinal(TypeRoom.class.getModifiers()));
        Desk.same("NONE", -1, TypeRoom.NONE);
        for (Class<?> inner : TypeRoom.class.getDeclaredClasses()) {
            Desk.same("static: " + inner, true, Modifier.isStatic(inner.getModifiers()));
            Desk.same("not public: " + inner, false, Modifier.isPublic(inner.getModifiers()));
            for (Method method : inner.getDeclaredMethods()) {
                Desk.same("a name of the face: " + method, false, (" " + FACE).contains(" " + method.getName() + "("));
            }
        }
        Desk.close();
    }

    private static String told(Method method) {
        StringBuilder out = new StringBuilder(method.getName()).append('(');
        for (Class<?> type : method.getParameterTypes()) {
            out.append(out.charAt(out.length() - 1) == '(' ? "" : ",").append(type.getName());
        }
        out.append("):").append(method.getReturnType().getName());
        String thrown = "";
        for (Class<?> type : method.getExceptionTypes()) {
            thrown += type == IllegalStateException.class ? "S" : type == IllegalArgumentException.class ? "A"
                : type == IndexOutOfBoundsException.class ? "O" : "?";
        }
        return out.append(thrown.isEmpty() ? "" : "!" + thrown).toString();
    }
}

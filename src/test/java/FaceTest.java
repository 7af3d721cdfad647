import java.lang.reflect.Constructor;
import java.lang.reflect.Field;
import java.lang.reflect.Method;
import java.lang.reflect.Modifier;
import java.util.Arrays;
import java.util.Set;
import java.util.TreeSet;

/** The face of the document and the rules of LANGUAGE.md that reflection can see. */
public final class FaceTest {
    private static final String FACE = "int feed(long,long,long) int ship() int voyage() int man(int,int) "
        + "int post(int,int) boolean stand(int,int) boolean below(int) int suck(int) int fall(int) int watch() "
        + "int dock() boolean undo() int judged(int) int captain() int argues(int) int salutes(int) int when(int) "
        + "int passes(int,int) int changes(int) int stations(int,int,int) int lemons(int,int) int docks(int) "
        + "int twins() int shades() int first(int,int) boolean see(int,int,int,boolean) int sets(int) int ask(int) "
        + "int chance(int,int,int) int rests(int,int,int,int) int voyages(int,int,int) boolean mark(int,boolean) "
        + "int count(int)";

    public static void main(String[] args) {
        Checks checks = new Checks();
        Class<?> face = GreenButtons.class;
        checks.is("final class", Modifier.isFinal(face.getModifiers()));
        Set<String> due = new TreeSet<>();
        Set<String> names = new TreeSet<>();
        for (String told : FACE.split("(?<=\\)) ")) {
            due.add(told);
            names.add(told.substring(told.indexOf(' ') + 1, told.indexOf('(')));
        }
        Set<String> found = new TreeSet<>();
        for (Method method : face.getDeclaredMethods()) {
            if (Modifier.isPrivate(method.getModifiers())) {
                checks.isNot("private " + method.getName(), names.contains(method.getName()));
            } else {
                checks.is("public " + method.getName(), Modifier.isPublic(method.getModifiers()));
                found.add(told(method));
            }
        }
        checks.is("face " + found + " is " + due, found.equals(due));
        Constructor<?>[] makers = face.getDeclaredConstructors();
        checks.is("one public constructor", makers.length == 1 && Modifier.isPublic(makers[0].getModifiers()));
        for (Field field : face.getDeclaredFields()) {
            boolean isNone = field.getName().equals("NONE");
            checks.is("field " + field.getName(), Modifier.isPrivate(field.getModifiers()) != isNone);
        }
        checks.same("NONE", GreenButtons.NONE, -1);
        for (Class<?> inner : face.getDeclaredClasses()) {
            checks.is("static " + inner.getName(), Modifier.isStatic(inner.getModifiers()));
            for (Method method : inner.getDeclaredMethods()) {
                checks.isNot(inner.getName() + "." + method.getName(), names.contains(method.getName()));
                checks.is("parameters of " + method.getName(), method.getParameterCount() <= 7);
            }
        }
        checks.is("twelve classes in the file, the public one too", face.getDeclaredClasses().length + 1 <= 12);
        checks.end();
    }

    private static String told(Method method) {
        String[] types = Arrays.stream(method.getParameterTypes()).map(Class::getName).toArray(String[]::new);
        return method.getReturnType().getName() + " " + method.getName() + "(" + String.join(",", types) + ")";
    }
}

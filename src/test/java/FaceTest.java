import java.lang.reflect.Constructor;
import java.lang.reflect.Field;
import java.lang.reflect.Method;
import java.lang.reflect.Modifier;
import java.util.Set;
import java.util.TreeSet;

/** The class shows the document's face, and nothing else. */
final class FaceTest {
    private static final String[] FACE = {
        "int kitchen(int)", "int pot()", "int cook(int,int)", "int dish(int,int,int)", "int dishes(int)",
        "long taste(int,int,int)", "long all(int,int)", "int portion(int,int)", "int over(int,int,int)",
        "long part(int,int,int)", "int back(int,int)", "int strongest(int)", "int harms(int,int,int)",
        "int first(int,int,int)", "int week(int,int,int,int)", "int bring(int,int,int,int,int)",
        "int mayHave(int,int,int,int)", "int tells(int)", "int lent(int,int)", "int gone(int,int,int)",
        "int seeded(int,int,int)", "int judge(int)", "int image()", "int restore()", "int count(int)",
        "int keep(int,int,int,int)", "int row(int,int,int)", "int put(int,int,int)", "long element(int,int)",
        "int copy(int,int,int,int,int)", "int price(int)", "int toss(int)"};

    public static void main(String[] args) {
        Class<?> c = ThirdOfTheLast.class;
        Check.due("public final", c.getModifiers(), Modifier.PUBLIC | Modifier.FINAL);
        Check.due("constructors", c.getDeclaredConstructors().length, 1);
        for (Constructor<?> made : c.getDeclaredConstructors()) {
            Check.isTrue("a public constructor without arguments",
                Modifier.isPublic(made.getModifiers()) && made.getParameterCount() == 0);
        }
        Set<String> shown = new TreeSet<>();
        Set<String> names = new TreeSet<>();
        Set<String> hidden = new TreeSet<>();
        for (Method m : c.getDeclaredMethods()) {
            if (Modifier.isPrivate(m.getModifiers())) {
                hidden.add(m.getName());
            } else {
                Check.due(m.getName() + " is public alone", m.getModifiers(), Modifier.PUBLIC);
                shown.add(told(m));
                names.add(m.getName());
                Check.isTrue(m.getName() + " says what it throws", told(m.getExceptionTypes()).equals(
                    m.getName().equals("element") ? "IllegalArgumentException,IllegalStateException" : ""));
            }
        }
        Check.isTrue("the face is " + shown, shown.equals(new TreeSet<>(Set.of(FACE))));
        hidden.retainAll(names);
        Check.isTrue("private methods bear names of their own: " + hidden, hidden.isEmpty());
        for (Field f : c.getDeclaredFields()) {
            Check.isTrue(f.getName() + " is private", Modifier.isPrivate(f.getModifiers()));
        }
        for (Class<?> inside : c.getDeclaredClasses()) {
            Check.isTrue(inside + " is private and static",
                Modifier.isPrivate(inside.getModifiers()) && Modifier.isStatic(inside.getModifiers()));
        }
        Check.end("FaceTest");
    }

    private static String told(Method m) {
        return m.getReturnType().getName() + ' ' + m.getName() + '(' + told(m.getParameterTypes()) + ')';
    }

    private static String told(Class<?>[] types) {
        StringBuilder text = new StringBuilder();
        for (Class<?> type : types) {
            text.append(text.length() == 0 ? "" : ",").append(type.getSimpleName());
        }
        return text.toString();
    }
}

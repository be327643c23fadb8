import java.lang.reflect.Constructor;
import java.lang.reflect.Field;
import java.lang.reflect.Method;
import java.lang.reflect.Modifier;
import java.util.Set;
import java.util.TreeSet;

/** The public face is the document's, no more and no less, and nothing else of the class can be seen. */
public final class FaceTest {
    private static final String[] FACE = {
        "int feed(int,int,int,int,int)", "int exchange(int)", "int fault(int)", "int line(int,int)", "int cord(int,int)",
        "int call(int,int)", "int likes(int,int)", "int comesTo(int,int)", "int dial(int,int,int)", "int pull(int)",
        "int door(int)", "int minutes(int)", "int undo(int)", "int judge(int,int)", "int perform(int)",
        "int spring(int,int)", "int lost(int)", "int firstLost()", "int together(int,int)", "int weddings(int)",
        "int busiest(int)", "int hog(int)", "int best(int)", "int bestBy(int)", "int enough()", "boolean atOnce(int)",
        "int crossed(int,int)", "int crossings(int)", "int stable()", "int partner(int)", "int leave()", "int darlings()",
        "int happiest(int)", "long loss(int,int,int,int)", "int fewest(int,int,int)", "int rules(int)", "int rule(int,int)",
        "int ask(int)", "void tray(int,int,int)", "long write(int,int,long)", "int copy(int)", "void image(int)",
        "void restore(int)", "int count(int)"};

    public static void main(String[] args) {
        Set<String> want = new TreeSet<>(Set.of(FACE));
        Set<String> got = new TreeSet<>();
        Set<String> names = new TreeSet<>();
        for (Method method : CrossedLines.class.getDeclaredMethods()) {
            if (Modifier.isPublic(method.getModifiers())) {
                got.add(told(method));
                names.add(method.getName());
                Check.due("static " + told(method), Modifier.isStatic(method.getModifiers()) ? 1 : 0, 0);
            }
        }
        Check.due("the face: " + got, got.equals(want) ? 1 : 0, 1);
        for (Method method : CrossedLines.class.getDeclaredMethods()) {
            int sight = method.getModifiers();
            boolean isHidden = Modifier.isPrivate(sight) && !names.contains(method.getName());
            Check.due(told(method), Modifier.isPublic(sight) || isHidden ? 1 : 0, 1);
        }
        for (Field field : CrossedLines.class.getDeclaredFields()) {
            boolean isNone = field.getName().equals("NONE");
            Check.due(field.getName(), Modifier.isPrivate(field.getModifiers()) != isNone ? 1 : 0, 1);
            Check.due(field.getName() + " static, final", Modifier.isStatic(field.getModifiers())
                    && !Modifier.isFinal(field.getModifiers()) ? 1 : 0, 0);
        }
        Constructor<?>[] makers = CrossedLines.class.getDeclaredConstructors();
        Check.due("constructors", makers.length, 1);
        Check.due("a public one", Modifier.isPublic(makers[0].getModifiers()) ? 1 : 0, 1);
        Check.due("final", Modifier.isFinal(CrossedLines.class.getModifiers()) ? 1 : 0, 1);
        for (Class<?> inside : CrossedLines.class.getDeclaredClasses()) {
            boolean isHidden = !Modifier.isPublic(inside.getModifiers()) && Modifier.isStatic(inside.getModifiers());
            Check.due(inside.getName(), isHidden ? 1 : 0, 1);
            for (Method method : inside.getDeclaredMethods()) {
                Check.due(inside.getName() + " " + told(method), names.contains(method.getName()) ? 1 : 0, 0);
            }
        }
        Check.end();
    }

    private static String told(Method method) {
        StringBuilder row = new StringBuilder();
        for (Class<?> type : method.getParameterTypes()) {
            row.append(row.length() == 0 ? "" : ",").append(type.getSimpleName());
        }
        return method.getReturnType().getSimpleName() + " " + method.getName() + "(" + row + ")";
    }
}

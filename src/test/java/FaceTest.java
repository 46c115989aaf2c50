import java.lang.reflect.Constructor;
import java.lang.reflect.Field;
import java.lang.reflect.Member;
import java.lang.reflect.Method;
import java.lang.reflect.Modifier;
import java.util.ArrayList;
import java.util.Arrays;
import java.util.List;

/** The class has the document's face, and nothing else of it is seen from outside. */
final class FaceTest {
    private static final String I = "IllegalArgumentException";
    private static final String S = "IllegalStateException";
    private static final String N = "NoSuchElementException";

    public static void main(String[] args) {
        List<String> due = new ArrayList<>(Arrays.asList(
            "public Pathparade()",
            "public void begin(int)" + I, "public int addEdge(int,int,int)" + I + S, "public int setLength(int,int)" + I,
            "public boolean toggleEdge(int)" + I, "public boolean toggleNode(int)" + I,
            "public boolean toggleTurn(int,int)" + I, "public int nodes()", "public int edges()",
            "public int usableEdges()", "public int distance(int,int)" + I + N, "public void startPaths(int,int)" + I,
            "public int nextPath()" + S + N, "public int pathsDrawn()" + S, "public int pathEdges()" + S + N,
            "public int pathEdge(int)" + S + N, "public int countPaths(int,int,int)" + I,
            "public void startWalks(int,int)" + I, "public int nextWalk()" + S + N, "public int walksDrawn()" + S,
            "public int walkEdges()" + S + N, "public int walkEdge(int)" + S + N,
            "public int disjointPaths(int,int,boolean)" + I, "public int disjointLength(int,int,int,boolean)" + I + N,
            "public int allowedLength(int,int)" + I + N, "public int allowedEdges(int,int)" + I + N,
            "public int allowedEdge(int,int,int)" + I + N));
        List<String> got = face();
        due.sort(null);
        got.sort(null);
        Runs.due("the face", String.valueOf(got), String.valueOf(due));
        Runs.due("the class", Modifier.toString(Pathparade.class.getModifiers()), "public final");
        Runs.due("private methods that bear the name of a public one", String.valueOf(nameTwins()), "[]");
        Runs.due("fields that are static and not final", String.valueOf(changeableStatics()), "[]");
        Runs.end("FaceTest");
    }

    private static List<String> face() {
        List<String> face = new ArrayList<>();
        for (Constructor<?> made : Pathparade.class.getDeclaredConstructors()) {
            if (isSeen(made)) {
                face.add(Modifier.toString(made.getModifiers()) + " Pathparade" + types("(", made.getParameterTypes()));
            }
        }
        for (Method method : Pathparade.class.getDeclaredMethods()) {
            if (isSeen(method)) {
                face.add(Modifier.toString(method.getModifiers()) + " " + method.getReturnType() + " " + method.getName()
                    + types("(", method.getParameterTypes()) + exceptions(method));
            }
        }
        for (Field field : Pathparade.class.getDeclaredFields()) {
            if (isSeen(field)) {
                face.add("field " + field.getName());
            }
        }
        return face;
    }

    private static List<String> nameTwins() {
        List<String> twins = new ArrayList<>();
        for (Method method : Pathparade.class.getDeclaredMethods()) {
            for (Method other : Pathparade.class.getDeclaredMethods()) {
                if (!isSeen(method) && isSeen(other) && method.getName().equals(other.getName())) {
                    twins.add(method.getName());
                }
            }
        }
        return twins;
    }

    private static List<String> changeableStatics() {
        List<String> found = new ArrayList<>();
        List<Class<?>> classes = new ArrayList<>(Arrays.asList(Pathparade.class.getDeclaredClasses()));
        classes.add(Pathparade.class);
        for (Class<?> one : classes) {
            for (Field field : one.getDeclaredFields()) {
                if (Modifier.isStatic(field.getModifiers()) && !Modifier.isFinal(field.getModifiers())) {
                    found.add(one.getSimpleName() + "." + field.getName());
                }
            }
        }
        return found;
    }

    private static boolean isSeen(Member member) {
        return !Modifier.isPrivate(member.getModifiers()) && !member.isSynthetic();
    }

    private static String types(String open, Class<?>[] types) {
        StringBuilder text = new StringBuilder(open);
        for (int i = 0; i < types.length; i++) {
            text.append(i == 0 ? "" : ",").append(types[i].getSimpleName());
        }
        return text.append(")").toString();
    }

    private static String exceptions(Method method) {
        StringBuilder text = new StringBuilder();
        for (Class<?> type : method.getExceptionTypes()) {
            text.append(type.getSimpleName());
        }
        return text.toString();
    }
}

import java.lang.reflect.Constructor;
import java.lang.reflect.Field;
import java.lang.reflect.Method;
import java.lang.reflect.Modifier;
import java.util.List;
import java.util.TreeSet;

/** The public face is the document's and no more, and no call throws, whatever it is given. */
public final class FaceTests {
    private static final String[] FACE = {
        "void clear()", "int node()", "int arc(int,int)", "int turn(int)", "int count(int)", "int part(int)",
        "int bridge(int)", "int falls(int)", "int block(int)", "int twin(int)", "int arcs(int,int)",
        "int side(int,int)", "int nodes(int,int)", "int between(int,int)", "int mends(int,int)", "int way(int)",
        "int together(int,int)", "int splits(int,int)", "int worn()"};
    private static final int[] ODD = {
        Integer.MIN_VALUE, Integer.MIN_VALUE + 1, -65, -64, -33, -32, -2, -1, 0, 1, 2, 3, 4, 7, 8, 9, 13, 14, 15, 31,
        32, 33, 39, 40, 41, 63, 64, 65, Integer.MAX_VALUE};
    private static int wrong = 0;

    private static void fault(String text) {
        wrong++;
        System.out.println(text);
    }

    private static String told(Method method) {
        StringBuilder text = new StringBuilder(method.getReturnType().getName());
        text.append(' ').append(method.getName()).append('(');
        for (Class<?> type : method.getParameterTypes()) {
            text.append(text.charAt(text.length() - 1) == '(' ? "" : ",").append(type.getName());
        }
        return text.append(')').toString();
    }

    private static void checkMethods() {
        TreeSet<String> want = new TreeSet<>(List.of(FACE));
        TreeSet<String> got = new TreeSet<>();
        TreeSet<String> names = new TreeSet<>();
        for (Method method : CutPoints.class.getDeclaredMethods()) {
            if (!Modifier.isPrivate(method.getModifiers())) {
                got.add(told(method));
                names.add(method.getName());
                if (!Modifier.isPublic(method.getModifiers()) || Modifier.isStatic(method.getModifiers())) {
                    fault("not of the face: " + method);
                }
            }
        }
        if (!want.equals(got)) {
            fault("the methods are " + got + ", due are " + want);
        }
        for (Method method : CutPoints.class.getDeclaredMethods()) {
            if (Modifier.isPrivate(method.getModifiers()) && names.contains(method.getName())) {
                fault("a private method with the name of a public one: " + method);
            }
        }
    }

    private static void checkRest() {
        if (!Modifier.isFinal(CutPoints.class.getModifiers()) || !Modifier.isPublic(CutPoints.class.getModifiers())) {
            fault("the class is not public and final");
        }
        for (Field field : CutPoints.class.getDeclaredFields()) {
            int kind = field.getModifiers();
            boolean none = field.getName().equals("NONE");
            if (none != Modifier.isPublic(kind) || !none && !Modifier.isPrivate(kind)) {
                fault("not of the face: " + field);
            }
            if (Modifier.isStatic(kind) && !Modifier.isFinal(kind)) {
                fault("static and not final: " + field);
            }
        }
        for (Constructor<?> maker : CutPoints.class.getDeclaredConstructors()) {
            if (!Modifier.isPublic(maker.getModifiers()) || maker.getParameterCount() != 0) {
                fault("not of the face: " + maker);
            }
        }
    }

    /** Nothing may live outside of the objects but constants, so that two of them never meet. */
    private static void checkStatics() {
        for (Class<?> inside : CutPoints.class.getDeclaredClasses()) {
            if (!Modifier.isStatic(inside.getModifiers()) || Modifier.isPublic(inside.getModifiers())) {
                fault("not static, or public: " + inside);
            }
            for (Field field : inside.getDeclaredFields()) {
                int kind = field.getModifiers();
                boolean constant = Modifier.isFinal(kind) && field.getType().isPrimitive();
                if (Modifier.isStatic(kind) && !constant && !inside.isEnum()) {
                    fault("static and no constant: " + field);
                }
            }
        }
    }

    /** Makes its object anew before it would get more calls than the document speaks of. */
    private static final class Caller {
        private final int nodes;
        private final int arcs;
        private final boolean cleared;
        private CutPoints x;
        private int given;

        Caller(int nodes, int arcs, boolean cleared) {
            this.nodes = nodes;
            this.arcs = arcs;
            this.cleared = cleared;
            make();
        }

        private void make() {
            x = new CutPoints();
            for (int i = 0; i < nodes; i++) {
                x.node();
            }
            for (int i = 0; i < arcs && nodes > 1; i++) {
                x.arc(i % nodes, (i + 1 + i / nodes % (nodes - 1)) % nodes);
            }
            if (cleared) {
                x.clear();
            }
            given = nodes + arcs + 1;
        }

        void call(Method method, Object... numbers) throws ReflectiveOperationException {
            if (given >= 512) {
                make();
            }
            given++;
            method.invoke(x, numbers);
        }

        void callAll() throws ReflectiveOperationException {
            for (Method method : CutPoints.class.getMethods()) {
                if (method.getDeclaringClass() != CutPoints.class || method.getName().equals("clear")) {
                    continue;
                }
                for (int a : ODD) {
                    if (method.getParameterCount() == 0) {
                        call(method);
                    } else if (method.getParameterCount() == 1) {
                        call(method, a);
                    } else {
                        for (int b : ODD) {
                            call(method, a, b);
                        }
                    }
                }
            }
        }
    }

    private static void checkOddCalls() {
        for (int nodes : new int[] {0, 1, 2, 5, 14}) {
            for (int arcs : new int[] {0, 1, 14, 15, 40}) {
                try {
                    new Caller(nodes, arcs, false).callAll();
                    new Caller(nodes, arcs, true).callAll();
                } catch (ReflectiveOperationException thrown) {
                    fault("a call threw: " + thrown.getCause());
                }
            }
        }
    }

    public static void main(String[] args) {
        checkMethods();
        checkRest();
        checkStatics();
        checkOddCalls();
        System.out.println(wrong == 0 ? "all is as due" : wrong + " faults");
        if (wrong != 0) {
            System.exit(1);
        }
    }
}

import java.lang.reflect.Constructor;
import java.lang.reflect.Field;
import java.lang.reflect.Method;
import java.lang.reflect.Modifier;
import java.util.Arrays;
import java.util.TreeSet;

/** "The public face": what the document shows, each with its kinds, and nothing else that can be seen from outside. */
public final class FaceTest {
    private static final Check CHECK = new Check();
    private static final String[] FACE = {
        "int feed(int,int,int,int,int)", "int end(int)", "int roll()", "int reword(int)", "int fault(int)",
        "int countings()", "int counting(int,int)", "int chosen(int)", "int wins(int)", "int says(int)", "int looks(int)",
        "int part(int)", "int telling()", "boolean mark(int,int)", "int open(int)", "int has(int)", "int judge()",
        "int rest(int)", "int soonest(int)", "int sway(int,int)", "int more(int,int)", "int shown(int,int,int)",
        "int hand(int,int)", "boolean untell(int)", "int later(int)", "int left(int)", "int sure(int,int)",
        "int image(int)", "int back(int)", "int about(int)"};

    public static void main(String[] args) {
        theClass();
        constants();
        methods();
        classesInside();
        lastCall();
        CHECK.close("FaceTest");
    }

    private static void theClass() {
        // "public final class BallotRing": without a package; "public BallotRing();" alone makes one.
        int is = BallotRing.class.getModifiers();
        CHECK.due("the class is public and final", is, Modifier.PUBLIC | Modifier.FINAL);
        CHECK.due("its package", BallotRing.class.getPackageName(), "");
        CHECK.due("what it goes on from", BallotRing.class.getSuperclass().getName(), "java.lang.Object");
        CHECK.due("its interfaces", BallotRing.class.getInterfaces().length, 0);
        Constructor<?>[] all = BallotRing.class.getDeclaredConstructors();
        CHECK.due("constructors", all.length, 1);
        CHECK.due("its constructor is public", all[0].getModifiers(), Modifier.PUBLIC);
        CHECK.due("its constructor's numbers", all[0].getParameterCount(), 0);
    }

    private static void constants() {
        // "public static final int NONE = -1;"; "The constants: NONE = -1".
        CHECK.due("NONE", BallotRing.NONE, -1);
        for (Field field : BallotRing.class.getDeclaredFields()) {
            boolean none = field.getName().equals("NONE");
            int open = field.getModifiers() & (Modifier.PUBLIC | Modifier.PROTECTED | Modifier.PRIVATE);
            CHECK.due("who sees " + field.getName(), open, none ? Modifier.PUBLIC : Modifier.PRIVATE);
            if (Modifier.isStatic(field.getModifiers())) {
                CHECK.due(field.getName() + " is final", Modifier.isFinal(field.getModifiers()), true);
            }
            if (none) {
                CHECK.due("NONE's kind", field.getType().getName(), "int");
                CHECK.due("NONE is static", Modifier.isStatic(field.getModifiers()), true);
            }
        }
    }

    private static void methods() {
        TreeSet<String> open = new TreeSet<>();
        TreeSet<String> names = new TreeSet<>();
        for (Method method : BallotRing.class.getDeclaredMethods()) {
            if (Modifier.isPublic(method.getModifiers())) {
                open.add(told(method));
                names.add(method.getName());
                CHECK.due(method.getName() + " is public alone", method.getModifiers(), Modifier.PUBLIC);
            }
        }
        CHECK.due("the face", String.join("; ", open), String.join("; ", new TreeSet<>(Arrays.asList(FACE))));
        for (Method method : BallotRing.class.getDeclaredMethods()) {
            if (!Modifier.isPublic(method.getModifiers())) {
                closed(method, names);
            }
        }
    }

    private static String told(Method method) {
        StringBuilder kinds = new StringBuilder();
        for (Class<?> kind : method.getParameterTypes()) {
            kinds.append(kinds.length() > 0 ? "," : "").append(kind.getName());
        }
        return method.getReturnType().getName() + " " + method.getName() + "(" + kinds + ")";
    }

    // No private method bears the name of a public one.
    private static void closed(Method method, TreeSet<String> names) {
        CHECK.due(method + " is private", Modifier.isPrivate(method.getModifiers()) || method.isSynthetic(), true);
        CHECK.due(method + " bears a name of the face", names.contains(method.getName()), false);
    }

    private static void classesInside() {
        for (Class<?> inside : BallotRing.class.getDeclaredClasses()) {
            int is = inside.getModifiers();
            CHECK.due(inside + " is static", Modifier.isStatic(is), true);
            CHECK.due(inside + " can't be seen", Modifier.isPublic(is) || Modifier.isProtected(is), false);
        }
    }

    private static void lastCall() {
        // "An object is used for at most 512 calls after it has been made": the last of them answers as the first.
        BallotRing x = new BallotRing();
        String text = "name x;street s;voter a at s weight 1;voter b at s weight 1;ballot a as b;ballot b as a;";
        Check.write(x, text);
        int calls = 2 + (text.length() + 19) / 20;
        CHECK.due("roll()", x.roll(), 2);
        for (calls++; calls < 511; calls++) {
            switch (calls % 4) {
                case 0 -> CHECK.due("countings() by call " + calls, x.countings(), 2);
                case 1 -> CHECK.due("mark(0,1) by call " + calls, x.mark(0, 1), true);
                case 2 -> CHECK.due("soonest(1) by call " + calls, x.soonest(1), 12);
                default -> CHECK.due("sway(0,1) by call " + calls, x.sway(0, 1), 1);
            }
        }
        CHECK.due("the 512th call", x.open(1), 1);
    }
}

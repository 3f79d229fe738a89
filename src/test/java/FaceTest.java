import java.lang.reflect.Constructor;
import java.lang.reflect.Field;
import java.lang.reflect.Method;
import java.lang.reflect.Modifier;
import java.util.Set;
import java.util.TreeSet;

/** The public face, and promise 1: a new object. */
final class FaceTest {
    public static void main(String[] args) {
        theFaceIsTheDocuments();
        aNewObjectHasNothing();
        twoObjectsShareNothing();
        Calls.finish();
    }

    private static void theFaceIsTheDocuments() {
        Class<?> face = StepPrograms.class;
        Calls.due("public final", face.getModifiers(), Modifier.PUBLIC | Modifier.FINAL);
        Calls.due("NONE", StepPrograms.NONE, -1);
        Set<String> visible = new TreeSet<>();
        for (Field f : face.getDeclaredFields()) {
            if (!Modifier.isPrivate(f.getModifiers())) {
                visible.add(Modifier.toString(f.getModifiers()) + " " + f.getType() + " " + f.getName());
            }
        }
        for (Constructor<?> c : face.getDeclaredConstructors()) {
            visible.add(c.toString());
        }
        for (Method m : face.getDeclaredMethods()) {
            if (!Modifier.isPrivate(m.getModifiers())) {
                visible.add(m.toString().replace("StepPrograms.", ""));
            }
        }
        Set<String> due = new TreeSet<>(Set.of(
                "public static final int NONE",
                "public StepPrograms()",
                "public boolean text(long)",
                "public int load(int)",
                "public boolean file(int,long,int)",
                "public boolean clear(int,boolean)",
                "public boolean plant(int,boolean)",
                "public int run(int,int,int)",
                "public int about(int)",
                "public int said(int,int)",
                "public int register(int)",
                "public int size(int)",
                "public int byteOf(int,int)"));
        Calls.due("the face " + visible, visible.equals(due), true);
    }

    private static void aNewObjectHasNothing() {
        Calls c = new Calls();
        for (int k = -1; k <= 10; k++) {
            Calls.due("size", c.x.size(k), -1);
            Calls.due("byteOf", c.x.byteOf(k, 0), -1);
            Calls.due("about", c.x.about(k), -1);
            Calls.due("said", c.x.said(k, 0), -1);
            Calls.due("register", c.x.register(k), 0);
            Calls.due("run", c.x.run(k, 1, 10), -1);
        }
        Calls.due("about after runs of nothing", c.x.about(0), -1);
        Calls.due("register after runs of nothing", c.x.register(0), 0);
        for (int what = 0; what < 3; what++) {
            c.with(0, "ask b " + what);
            c.ends(1, 10, 106, 0);
        }
    }

    private static void twoObjectsShareNothing() {
        Calls one = new Calls().with(0, "out 1\nput 3 4\nlet b 9").withFile(2, 7).planted();
        one.ends(5, 10, 0, 3);
        one.write("ju");
        Calls two = new Calls();
        Calls.due("size", two.x.size(2), -1);
        Calls.due("run", two.x.run(0, 0, 10), -1);
        Calls.due("register", two.x.register(1), 0);
        two.with(0, "ask a 0");
        two.ends(3, 10, 106, 0);
        two.hasSaid(0);
    }
}

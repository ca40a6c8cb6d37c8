import java.lang.reflect.Constructor;
import java.lang.reflect.Field;
import java.lang.reflect.Method;
import java.lang.reflect.Modifier;
import java.util.Arrays;
import java.util.TreeSet;

/** The public face is the document's, neither less nor more. */
final class FaceTest {
    private static final String[] FACE = {
        "public CoalHulks()",
        "public int CoalHulks.hulk(int) throws IllegalArgumentException,IllegalStateException",
        "public int CoalHulks.lighter(int) throws IllegalArgumentException,IllegalStateException",
        "public int CoalHulks.gang(int) throws IllegalArgumentException,IllegalStateException",
        "public int CoalHulks.steamer(int,int) throws IllegalArgumentException,IllegalStateException",
        "public void CoalHulks.order(int,int,int) throws IndexOutOfBoundsException,IllegalStateException",
        "public void CoalHulks.shift(int,int) throws IndexOutOfBoundsException,IllegalStateException",
        "public int CoalHulks.sweep(int,int) throws IndexOutOfBoundsException,IllegalStateException",
        "public int CoalHulks.hours(int) throws IllegalArgumentException",
        "public int CoalHulks.clock()",
        "public int CoalHulks.coalIn(int) throws IndexOutOfBoundsException",
        "public int CoalHulks.placeOf(int) throws IndexOutOfBoundsException",
        "public int CoalHulks.loadOf(int) throws IndexOutOfBoundsException",
        "public int CoalHulks.dustIn(int) throws IndexOutOfBoundsException",
        "public int CoalHulks.gangOn(int) throws IndexOutOfBoundsException",
        "public int CoalHulks.restOf(int) throws IndexOutOfBoundsException",
        "public int CoalHulks.fateOf(int) throws IndexOutOfBoundsException",
        "public int CoalHulks.wantOf(int) throws IndexOutOfBoundsException",
        "public int CoalHulks.outside(int) throws IllegalArgumentException",
        "public int CoalHulks.delivered()",
        "public static final int CoalHulks.AT_HULK",
        "public static final int CoalHulks.OUTWARD",
        "public static final int CoalHulks.AT_STEAMER",
        "public static final int CoalHulks.HOMEWARD",
        "public static final int CoalHulks.OUTSIDE",
        "public static final int CoalHulks.AT_BUOY",
        "public static final int CoalHulks.FILLED",
        "public static final int CoalHulks.GONE_SHORT",
    };

    public static void main(String[] args) {
        constantsHaveTheirValues();
        faceIsTheDocuments();
        privateMethodsBearOtherNames();
        Checks.end();
    }

    private static void constantsHaveTheirValues() {
        Checks.due("AT_HULK", CoalHulks.AT_HULK, 0);
        Checks.due("OUTWARD", CoalHulks.OUTWARD, 1);
        Checks.due("AT_STEAMER", CoalHulks.AT_STEAMER, 2);
        Checks.due("HOMEWARD", CoalHulks.HOMEWARD, 3);
        Checks.due("OUTSIDE", CoalHulks.OUTSIDE, 0);
        Checks.due("AT_BUOY", CoalHulks.AT_BUOY, 1);
        Checks.due("FILLED", CoalHulks.FILLED, 2);
        Checks.due("GONE_SHORT", CoalHulks.GONE_SHORT, 3);
    }

    private static void faceIsTheDocuments() {
        TreeSet<String> due = new TreeSet<>(Arrays.asList(FACE));
        TreeSet<String> got = new TreeSet<>();
        for (Constructor<?> one : CoalHulks.class.getDeclaredConstructors()) {
            addVisible(got, one.getModifiers(), one.toString());
        }
        for (Method one : CoalHulks.class.getDeclaredMethods()) {
            addVisible(got, one.getModifiers(), one.toString());
        }
        for (Field one : CoalHulks.class.getDeclaredFields()) {
            addVisible(got, one.getModifiers(), one.toString());
        }
        for (String one : due) {
            Checks.due("in the class: " + one, got.contains(one) ? 1 : 0, 1);
        }
        for (String one : got) {
            Checks.due("in the document: " + one, due.contains(one) ? 1 : 0, 1);
        }
        Checks.due("the class is final", Modifier.isFinal(CoalHulks.class.getModifiers()) ? 1 : 0, 1);
        Checks.due("the class is public", Modifier.isPublic(CoalHulks.class.getModifiers()) ? 1 : 0, 1);
    }

    private static void addVisible(TreeSet<String> to, int modifiers, String text) {
        if (!Modifier.isPrivate(modifiers)) {
            to.add(text.replace("java.lang.", ""));
        }
    }

    private static void privateMethodsBearOtherNames() {
        for (Method one : CoalHulks.class.getDeclaredMethods()) {
            for (Method other : CoalHulks.class.getDeclaredMethods()) {
                boolean isShared = Modifier.isPrivate(one.getModifiers())
                    && Modifier.isPublic(other.getModifiers()) && one.getName().equals(other.getName());
                Checks.due("private with a public name: " + one.getName(), isShared ? 1 : 0, 0);
            }
        }
    }
}

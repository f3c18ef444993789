import java.lang.reflect.Constructor;
import java.lang.reflect.Field;
import java.lang.reflect.Method;
import java.lang.reflect.Modifier;
import java.util.Set;
import java.util.TreeSet;

/** Promise 1, and the face: just what the document tells is there, and no more. */
public final class FaceTest {
    public static void main(String[] args) {
        face();
        newObject();
        objectsAreApart();
        Support.end();
    }

    private static void face() {
        Set<String> shown = new TreeSet<>();
        for (Method method : ModuleHouse.class.getDeclaredMethods()) {
            if (!Modifier.isPrivate(method.getModifiers())) {
                shown.add(method.toGenericString());
            }
        }
        Support.dueText("the methods", shown.toString(), "["
                + "public int ModuleHouse.at(int) throws java.util.NoSuchElementException, "
                + "public int ModuleHouse.call(int) throws java.lang.IllegalArgumentException, "
                + "public int ModuleHouse.feed(int,long) throws java.lang.IllegalArgumentException,java.lang.IllegalStateException, "
                + "public int ModuleHouse.give(long) throws java.lang.IllegalStateException, "
                + "public int ModuleHouse.load(), "
                + "public int ModuleHouse.look(int) throws java.lang.IllegalArgumentException, "
                + "public long ModuleHouse.global(int) throws java.util.NoSuchElementException, "
                + "public long ModuleHouse.result(int) throws java.util.NoSuchElementException]");
        for (Field field : ModuleHouse.class.getDeclaredFields()) {
            Support.due(field.getName() + " is private", Modifier.isPrivate(field.getModifiers()) ? 1 : 0, 1);
        }
        Constructor<?>[] made = ModuleHouse.class.getDeclaredConstructors();
        Support.due("constructors", made.length, 1);
        Support.due("the constructor is public", Modifier.isPublic(made[0].getModifiers()) ? 1 : 0, 1);
        Support.due("the class is final", Modifier.isFinal(ModuleHouse.class.getModifiers()) ? 1 : 0, 1);
    }

    private static void newObject() {
        ModuleHouse x = new ModuleHouse();
        for (int what = 0; what <= 10; what++) {
            Support.due("look " + what, x.look(what), 0);
        }
        Support.dueText("result", Support.said(() -> x.result(0)), Support.NO_SUCH);
        Support.dueText("global", Support.said(() -> x.global(0)), Support.NO_SUCH);
        Support.dueText("at", Support.said(() -> x.at(0)), Support.NO_SUCH);
        Support.due("call without an instance", x.call(5), -1);
        Support.due("load of nothing", x.load(), -1);
    }

    private static void objectsAreApart() {
        Support.House one = Support.one(Support.of(), Support.of(Support.I32), Support.i32(1)).house();
        Support.House other = Support.one(Support.of(), Support.of(Support.I32), Support.i32(2)).house();
        Support.due("one", one.value(), 1);
        Support.due("the other", other.value(), 2);
        Support.due("one again", one.value(), 1);
    }
}

import java.lang.reflect.Executable;
import java.lang.reflect.Field;
import java.lang.reflect.Method;
import java.lang.reflect.Modifier;
import java.util.ArrayList;
import java.util.Arrays;
import java.util.List;
import java.util.Set;
import java.util.TreeSet;

/** The public face of the document, and rules 1, 2, 5 and 11 of LANGUAGE.md as far as the compiled class shows them. */
public final class FaceTest {
    private static final String FACE = "feed(long) end(int) palace() fault() rule(int) door(int,int) one(int,int) doors(int) law(int) "
        + "build(int,int,int) wall(int,boolean) stand(int,int) go(int,int) far(int,int) way(int,int,int) can(int) path(int,int) "
        + "pairs() life() trap(int,int) secret() safe() round(int,int) tour(int,int) talk(int,int,int) cup(int,int,int) more(int) "
        + "worst(int) mend(int) tell(int) forget() judge(int) ajar(int,int,int,int) keep(int) back(int) sheet(int,int,int) "
        + "lay(int,int,int) read(int,int,int,int,int) torn() count(int)";
    private static final Check C = Check.begin();

    private static void ok(String what, boolean holds) {
        C.due(what, holds ? 1 : 0, 1);
    }

    private static String sign(Method m) {
        List<String> types = new ArrayList<>();
        for (Class<?> t : m.getParameterTypes()) {
            types.add(t.getSimpleName());
        }
        return m.getName() + "(" + String.join(",", types) + ")";
    }

    private static void face() {
        Set<String> told = new TreeSet<>(Arrays.asList(FACE.split(" ")));
        Set<String> found = new TreeSet<>();
        for (Method m : OtherDoor.class.getDeclaredMethods()) {
            if (Modifier.isPrivate(m.getModifiers())) {
                continue;
            }
            found.add(sign(m));
            ok(m + " is public, of the object, answers int",
                Modifier.isPublic(m.getModifiers()) && !Modifier.isStatic(m.getModifiers()) && m.getReturnType() == int.class);
        }
        ok("the methods are the told ones: " + found, found.equals(told));
        ok("public final", Modifier.isPublic(OtherDoor.class.getModifiers()) && Modifier.isFinal(OtherDoor.class.getModifiers()));
        ok("one public constructor", OtherDoor.class.getDeclaredConstructors().length == 1
            && OtherDoor.class.getConstructors().length == 1 && OtherDoor.class.getConstructors()[0].getParameterCount() == 0);
        Set<String> constants = new TreeSet<>();
        for (Field f : OtherDoor.class.getDeclaredFields()) {
            if (!Modifier.isPrivate(f.getModifiers())) {
                constants.add(f.getName());
            }
        }
        ok("constants: " + constants, constants.equals(Set.of("BAD", "STATE", "FULL", "NONE")));
        C.dueAll("constants", new int[] {OtherDoor.BAD, OtherDoor.STATE, OtherDoor.FULL, OtherDoor.NONE}, -1, -2, -3, -4);
    }

    private static void classOf(Class<?> type, Set<String> faceNames) {
        boolean isOuter = type == OtherDoor.class;
        ok(type + " is static and not public", isOuter
            || Modifier.isStatic(type.getModifiers()) && !Modifier.isPublic(type.getModifiers()) && !Modifier.isProtected(type.getModifiers()));
        int fields = 0;
        for (Field f : type.getDeclaredFields()) {
            fields += Modifier.isStatic(f.getModifiers()) ? 0 : 1;
            ok(f + ": static is final", !Modifier.isStatic(f.getModifiers()) || Modifier.isFinal(f.getModifiers()));
        }
        ok(type + " has few fields: " + fields, fields <= 20);
        for (Executable m : type.getDeclaredMethods()) {
            ok(m + " has at most seven parameters", m.getParameterCount() <= 7);
            ok(m + " has a name of its own", isOuter && Modifier.isPublic(m.getModifiers()) || !faceNames.contains(m.getName()));
        }
    }

    public static void main(String[] args) {
        face();
        Set<String> names = new TreeSet<>();
        for (String sign : FACE.split(" ")) {
            names.add(sign.substring(0, sign.indexOf('(')));
        }
        classOf(OtherDoor.class, names);
        for (Class<?> type : OtherDoor.class.getDeclaredClasses()) {
            classOf(type, names);
        }
        ok("at most twelve classes", OtherDoor.class.getDeclaredClasses().length <= 12);
        C.finish("FaceTest");
    }
}

import java.io.IOException;
import java.lang.reflect.Executable;
import java.lang.reflect.Field;
import java.lang.reflect.Method;
import java.lang.reflect.Modifier;
import java.nio.charset.StandardCharsets;
import java.nio.file.Files;
import java.nio.file.Path;
import java.util.ArrayList;
import java.util.List;
import java.util.Set;
import java.util.TreeSet;
import java.util.regex.Matcher;
import java.util.regex.Pattern;

/** The public face, as the document tells it, and rules 1, 2, 5 and 11 of LANGUAGE.md as far as the compiled class shows them. */
public final class FaceTest {
    private static final Path DOC = Path.of("../shared/DOC.md");
    private static final Pattern CALL = Pattern.compile("int (\\w+)\\(([^)]*)\\)");
    private static final Check C = Check.begin();

    private static void ok(String what, boolean holds) {
        C.due(what, holds ? 1 : 0, 1);
    }

    /** The calls that a text of the document tells, as name(type,type). */
    private static List<String> told(String text) {
        List<String> all = new ArrayList<>();
        Matcher m = CALL.matcher(text);
        while (m.find()) {
            all.add(m.group(1) + "(" + m.group(2).replaceAll("(\\w+) \\w+(, )?", "$1,").replaceAll(",$", "") + ")");
        }
        return all;
    }

    /** Under "The public face" and at the head of each promise: the same calls, in the same order. */
    private static List<String> toldFace() throws IOException {
        String doc = Files.readString(DOC, StandardCharsets.UTF_8);
        List<String> face = told(doc.substring(doc.indexOf("public final class"), doc.indexOf("## Terms")));
        StringBuilder heads = new StringBuilder();
        Matcher m = Pattern.compile("(?m)^`[^`]*`:").matcher(doc);
        while (m.find()) {
            heads.append(m.group()).append('\n');
        }
        ok("each call of the face has its promise: " + face, face.equals(told(heads.toString())));
        C.due("calls", face.size(), 40);
        return face;
    }

    private static String sign(Method m) {
        List<String> types = new ArrayList<>();
        for (Class<?> t : m.getParameterTypes()) {
            types.add(t.getSimpleName());
        }
        return m.getName() + "(" + String.join(",", types) + ")";
    }

    private static void face(List<String> face) {
        Set<String> told = new TreeSet<>(face);
        Set<String> found = new TreeSet<>();
        for (Method m : OtherDoor.class.getDeclaredMethods()) {
            if (Modifier.isPrivate(m.getModifiers())) {
                continue;
            }
            found.add(sign(m));
            ok(m + " is public, of the object, answers int",
                Modifier.isPublic(m.getModifiers()) && !Modifier.isStatic(m.getModifiers()) && m.getReturnType() == int.class);
        }
        ok("the methods are the told ones: " + found, found.equals(told));
        ok("public final", Modifier.isPublic(OtherDoor.class.getModifiers()) && Modifier.isFinal(OtherDoor.class.getModifiers()));
        ok("one public constructor", OtherDoor.class.getDeclaredConstructors().length == 1
            && OtherDoor.class.getConstructors().length == 1 && OtherDoor.class.getConstructors()[0].getParameterCount() == 0);
        Set<String> constants = new TreeSet<>();
        for (Field f : OtherDoor.class.getDeclaredFields()) {
            if (!Modifier.isPrivate(f.getModifiers())) {
                constants.add(f.getName());
            }
        }
        ok("constants: " + constants, constants.equals(Set.of("BAD", "STATE", "FULL", "NONE")));
        C.dueAll("constants", new int[] {OtherDoor.BAD, OtherDoor.STATE, OtherDoor.FULL, OtherDoor.NONE}, -1, -2, -3, -4);
    }

    private static void classOf(Class<?> type, Set<String> faceNames) {
        boolean isOuter = type == OtherDoor.class;
        ok(type + " is static and not public", isOuter
            || Modifier.isStatic(type.getModifiers()) && !Modifier.isPublic(type.getModifiers()) && !Modifier.isProtected(type.getModifiers()));
        int fields = 0;
        for (Field f : type.getDeclaredFields()) {
            fields += Modifier.isStatic(f.getModifiers()) ? 0 : 1;
            ok(f + ": static is final", !Modifier.isStatic(f.getModifiers()) || Modifier.isFinal(f.getModifiers()));
        }
        ok(type + " has few fields: " + fields, fields <= 20);
        for (Executable m : type.getDeclaredMethods()) {
            ok(m + " has at most seven parameters", m.getParameterCount() <= 7);
            ok(m + " has a name of its own", isOuter && Modifier.isPublic(m.getModifiers()) || !faceNames.contains(m.getName()));
        }
    }

    public static void main(String[] args) throws IOException {
        List<String> face = toldFace();
        face(face);
        Set<String> names = new TreeSet<>();
        for (String sign : face) {
            names.add(sign.substring(0, sign.indexOf('(')));
        }
        classOf(OtherDoor.class, names);
        for (Class<?> type : OtherDoor.class.getDeclaredClasses()) {
            classOf(type, names);
        }
        ok("at most twelve classes", OtherDoor.class.getDeclaredClasses().length <= 12);
        C.finish("FaceTest");
    }
}

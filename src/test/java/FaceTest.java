import java.lang.reflect.Constructor;
import java.lang.reflect.Field;
import java.lang.reflect.Member;
import java.lang.reflect.Method;
import java.lang.reflect.Modifier;
import java.util.HashSet;
import java.util.Set;
import java.util.TreeSet;

// The class has the public members that the document names, and every other member is private.
public final class FaceTest {
    private static final String[] FACE = {
        "public static final int BAD_ARG",
        "public static final int FULL",
        "public static final int NONE",
        "public static final int NEEDED",
        "public PatchGraphs()",
        "public int put(int,int,int)",
        "public int strike(int,int)",
        "public int pull(int,int)",
        "public int pick(int,int)",
        "public int drop(int,int)",
        "public int made()",
        "public int patches(int)",
        "public boolean has(int,int)",
        "public int patch(int,int)",
        "public boolean needs(int,int)",
        "public int needed(int)",
        "public int loose(int)",
        "public int length(int)",
        "public int line(int,int)",
        "public int content(int,int)",
        "public int conflicts(int)",
        "public int rings(int)",
        "public boolean before(int,int,int)",
        "public boolean agree(int,int)",
        "public boolean alike(int,int)",
    };

    private static int wrong = 0;

    private static void hold(boolean holds, String what) {
        if (!holds) {
            wrong++;
            System.out.println(what);
        }
    }

    private static void see(Set<String> seen, Member member, String text) {
        if (!Modifier.isPrivate(member.getModifiers())) {
            seen.add(text.replace("PatchGraphs.", ""));
        }
    }

    public static void main(String[] args) {
        Class<PatchGraphs> type = PatchGraphs.class;
        Set<String> seen = new TreeSet<>();
        for (Field field : type.getDeclaredFields()) {
            see(seen, field, field.toString());
        }
        for (Constructor<?> constructor : type.getDeclaredConstructors()) {
            see(seen, constructor, constructor.toString());
        }
        for (Method method : type.getDeclaredMethods()) {
            see(seen, method, method.toString());
        }
        Set<String> wanted = new TreeSet<>(Set.of(FACE));
        hold(seen.equals(wanted), "the face is " + seen + ", due is " + wanted);
        hold(Modifier.isPublic(type.getModifiers()) && Modifier.isFinal(type.getModifiers()),
            "the class is not public and final");
        hold(type.getDeclaredClasses().length == 0, "the class has a class inside");
        hold(type.getSuperclass() == Object.class && type.getInterfaces().length == 0,
            "the class is built on another one");
        Set<String> names = new HashSet<>();
        for (Method method : type.getDeclaredMethods()) {
            hold(names.add(method.getName()), "two methods bear the name " + method.getName());
        }
        System.out.println(wrong == 0 ? "the face is as due" : wrong + " things are not as due");
        if (wrong != 0) {
            System.exit(1);
        }
    }
}

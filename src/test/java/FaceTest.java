import java.lang.reflect.Constructor;
import java.lang.reflect.Executable;
import java.lang.reflect.Field;
import java.lang.reflect.Method;
import java.lang.reflect.Modifier;
import java.util.ArrayList;
import java.util.List;
import java.util.Set;
import java.util.TreeSet;

// The compiled class shows the members of the document's public face and no others.
public final class FaceTest {
    private static final Set<String> FACE = Set.of(
        "public static final int BAD_ARG",
        "public static final int FULL",
        "public static final int NONE",
        "public static final int BELOW",
        "public AclInherit()",
        "public int create(int, int)",
        "public int remove(int)",
        "public int move(int, int)",
        "public int parentOf(int)",
        "public int close(int, int)",
        "public int member(int, int, int)",
        "public int entry(int, int, int, int)",
        "public int drop(int, int)",
        "public int entries(int)",
        "public int rights(int, int)",
        "public boolean may(int, int, int)",
        "public int who(int, int)",
        "public int count(int, int)",
        "public int reach(int)",
        "public int stir(int)");

    private static String parameters(Class<?>[] types) {
        StringBuilder text = new StringBuilder();
        for (Class<?> type : types) {
            text.append(text.length() == 0 ? "" : ", ").append(type.getSimpleName());
        }
        return "(" + text + ")";
    }

    private static void addIfSeen(Set<String> seen, int modifiers, String text) {
        if (!Modifier.isPrivate(modifiers)) {
            String words = Modifier.toString(modifiers);
            seen.add(words.isEmpty() ? text : words + " " + text);
        }
    }

    private static Set<String> seenFace() {
        Set<String> seen = new TreeSet<>();
        for (Field f : AclInherit.class.getDeclaredFields()) {
            addIfSeen(seen, f.getModifiers(), f.getType().getSimpleName() + " " + f.getName());
        }
        for (Constructor<?> c : AclInherit.class.getDeclaredConstructors()) {
            addIfSeen(seen, c.getModifiers(), "AclInherit" + parameters(c.getParameterTypes()));
        }
        for (Method m : AclInherit.class.getDeclaredMethods()) {
            String text = m.getReturnType().getSimpleName() + " " + m.getName();
            addIfSeen(seen, m.getModifiers(), text + parameters(m.getParameterTypes()));
        }
        return seen;
    }

    /** How many members say that they throw something; the document's say nothing of that kind. */
    private static int exceptionsNamed() {
        int wrong = 0;
        List<Executable> members = new ArrayList<>(List.of(AclInherit.class.getDeclaredMethods()));
        members.addAll(List.of(AclInherit.class.getDeclaredConstructors()));
        for (Executable member : members) {
            if (member.getExceptionTypes().length != 0) {
                wrong++;
                System.out.println(member.getName() + " says that it throws something");
            }
        }
        return wrong;
    }

    /** Can be compiled only if the constants are such to the compiler too, as the document writes them. */
    private static String nameOf(int code) {
        return switch (code) {
            case AclInherit.BAD_ARG -> "BAD_ARG";
            case AclInherit.FULL -> "FULL";
            case AclInherit.NONE -> "NONE";
            case AclInherit.BELOW -> "BELOW";
            default -> "";
        };
    }

    private static int wrongCodes() {
        String[] names = {"", "BAD_ARG", "FULL", "NONE", "BELOW"};
        int wrong = 0;
        for (int n = 1; n < names.length; n++) {
            if (!nameOf(-n).equals(names[n])) {
                wrong++;
                System.out.println(names[n] + " is not " + -n);
            }
        }
        return wrong;
    }

    public static void main(String[] args) {
        int wrong = 0;
        Set<String> seen = seenFace();
        for (String member : FACE) {
            if (!seen.contains(member)) {
                wrong++;
                System.out.println("missing: " + member);
            }
        }
        for (String member : seen) {
            if (!FACE.contains(member)) {
                wrong++;
                System.out.println("not in the document: " + member);
            }
        }
        wrong += exceptionsNamed() + wrongCodes();
        String words = Modifier.toString(AclInherit.class.getModifiers());
        if (!words.equals("public final")) {
            wrong++;
            System.out.println("the class is " + words + ", due is public final");
        }
        if (AclInherit.class.getSuperclass() != Object.class || AclInherit.class.getInterfaces().length != 0) {
            wrong++;
            System.out.println("the class extends or implements another one");
        }
        System.out.println(wrong == 0 ? "the face is as due" : wrong + " members are not as due");
        if (wrong != 0) {
            System.exit(1);
        }
    }
}

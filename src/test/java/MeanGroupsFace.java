import java.lang.reflect.Field;
import java.lang.reflect.Member;
import java.lang.reflect.Method;
import java.lang.reflect.Modifier;
import java.util.ArrayList;
import java.util.Arrays;
import java.util.List;
import java.util.TreeSet;

// "The public face" of the document: the class has every member that is named there, and every other
// member is private. With it, what LANGUAGE.md asks of names and of static fields.
public final class MeanGroupsFace {
    private static final String[] FACE = {
        "public MeanGroups()",
        "public int MeanGroups.add(int,int)",
        "public int MeanGroups.drop(int)",
        "public int MeanGroups.seed(int,int,int)",
        "public void MeanGroups.groups(int)",
        "public void MeanGroups.reset()",
        "public int MeanGroups.round()",
        "public int MeanGroups.settle()",
        "public int MeanGroups.group(int)",
        "public int MeanGroups.size(int)",
        "public int MeanGroups.sum(int,int)",
        "public int MeanGroups.near(int)",
    };

    private static int wrong = 0;

    private static void due(boolean holds, String fault) {
        if (!holds) {
            wrong++;
            System.out.println("The public face: " + fault);
        }
    }

    private static List<Member> members() {
        List<Member> all = new ArrayList<>();
        all.addAll(Arrays.asList(MeanGroups.class.getDeclaredConstructors()));
        all.addAll(Arrays.asList(MeanGroups.class.getDeclaredMethods()));
        all.addAll(Arrays.asList(MeanGroups.class.getDeclaredFields()));
        return all;
    }

    private static void theClass() {
        Class<?> c = MeanGroups.class;
        due(c.getModifiers() == (Modifier.PUBLIC | Modifier.FINAL), "the class is not just public and final");
        due(c.getPackageName().isEmpty(), "the class has a package");
        due(c.getSuperclass() == Object.class, "the class extends another one");
        due(c.getInterfaces().length == 0, "the class has an interface");
        due(c.getDeclaredClasses().length == 0, "the class has a class inside");
    }

    private static void theMembers() {
        TreeSet<String> open = new TreeSet<>();
        for (Member m : members()) {
            if (!Modifier.isPrivate(m.getModifiers())) {
                open.add(m.toString());
            }
        }
        for (String member : FACE) {
            due(open.remove(member), "there is no " + member);
        }
        for (String member : open) {
            due(false, member + " is not in the document");
        }
    }

    // LANGUAGE.md, rule 1: no private method bears the name of a public one.
    private static void theNames() {
        TreeSet<String> open = new TreeSet<>();
        for (Method m : MeanGroups.class.getMethods()) {
            open.add(m.getName());
        }
        for (Method m : MeanGroups.class.getDeclaredMethods()) {
            due(!Modifier.isPrivate(m.getModifiers()) || !open.contains(m.getName()),
                "a private method has the public name " + m.getName());
        }
    }

    // LANGUAGE.md, rule 5: objects share nothing but constants.
    private static void theStatics() {
        for (Field f : MeanGroups.class.getDeclaredFields()) {
            boolean isNumber = f.getType() == int.class || f.getType() == long.class;
            due(!Modifier.isStatic(f.getModifiers()) || Modifier.isFinal(f.getModifiers()) && isNumber,
                f.getName() + " is static and not a constant of int or long");
        }
    }

    public static void main(String[] args) {
        theClass();
        theMembers();
        theNames();
        theStatics();
        System.out.println(wrong == 0 ? "the face is as due" : wrong + " faults of the face");
        if (wrong != 0) {
            System.exit(1);
        }
    }
}

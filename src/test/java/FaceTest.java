import java.lang.reflect.Constructor;
import java.lang.reflect.Field;
import java.lang.reflect.Member;
import java.lang.reflect.Method;
import java.lang.reflect.Modifier;
import java.util.Arrays;
import java.util.Set;
import java.util.TreeSet;

/** The public face, word for word, and no member beside it that others can see. */
public final class FaceTest {
    private static final String[] FACE = {
        "public TreeSlack()",
        "public boolean TreeSlack.inAll(int)",
        "public boolean TreeSlack.inSome(int)",
        "public int TreeSlack.bottleneck()",
        "public int TreeSlack.cheapest()",
        "public int TreeSlack.cost()",
        "public int TreeSlack.costWith(int)",
        "public int TreeSlack.costWithout(int)",
        "public int TreeSlack.drop()",
        "public int TreeSlack.edge(int,int,int)",
        "public int TreeSlack.nextCost()",
        "public int TreeSlack.slack(int)",
        "public int TreeSlack.trees()",
        "public int TreeSlack.turn(int,boolean)",
        "public int TreeSlack.weigh(int,int)",
        "public static final int TreeSlack.BAD_EDGE",
        "public static final int TreeSlack.BAD_VERTEX",
        "public static final int TreeSlack.BAD_WEIGHT",
        "public static final int TreeSlack.FULL",
        "public static final int TreeSlack.NO_LIMIT",
        "public static final int TreeSlack.NO_TREE",
    };

    public static void main(String[] args) {
        constants();
        members();
        privateNames();
        Checks.finish();
    }

    private static void constants() {
        Checks.due("BAD_EDGE", TreeSlack.BAD_EDGE, -1);
        Checks.due("BAD_VERTEX", TreeSlack.BAD_VERTEX, -2);
        Checks.due("BAD_WEIGHT", TreeSlack.BAD_WEIGHT, -3);
        Checks.due("FULL", TreeSlack.FULL, -4);
        Checks.due("NO_TREE", TreeSlack.NO_TREE, -5);
        Checks.due("NO_LIMIT", TreeSlack.NO_LIMIT, -6);
    }

    private static void members() {
        Set<String> seen = new TreeSet<>();
        for (Constructor<?> each : TreeSlack.class.getDeclaredConstructors()) {
            addIfSeen(seen, each, each.toString());
        }
        for (Method each : TreeSlack.class.getDeclaredMethods()) {
            addIfSeen(seen, each, each.toString());
        }
        for (Field each : TreeSlack.class.getDeclaredFields()) {
            addIfSeen(seen, each, each.toString());
        }
        Set<String> face = new TreeSet<>(Arrays.asList(FACE));
        Checks.due("modifiers of the class",
            TreeSlack.class.getModifiers(), Modifier.PUBLIC | Modifier.FINAL);
        Checks.due("the visible members are those of the face: " + seen, seen.equals(face), true);
        Checks.due("nested classes", TreeSlack.class.getDeclaredClasses().length, 0);
    }

    private static void addIfSeen(Set<String> seen, Member member, String text) {
        if (!Modifier.isPrivate(member.getModifiers())) {
            seen.add(text);
        }
    }

    private static void privateNames() {
        for (Method inner : TreeSlack.class.getDeclaredMethods()) {
            for (Method outer : TreeSlack.class.getMethods()) {
                boolean hidden = Modifier.isPrivate(inner.getModifiers());
                boolean clash = hidden && inner.getName().equals(outer.getName());
                Checks.due("a private method named " + inner.getName(), clash, false);
            }
        }
    }
}

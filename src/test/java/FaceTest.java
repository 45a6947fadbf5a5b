import java.lang.reflect.Constructor;
import java.lang.reflect.Field;
import java.lang.reflect.Method;
import java.lang.reflect.Modifier;
import java.util.Set;
import java.util.TreeSet;

/** The public face: the constants, the constructor and the methods of the document, no others. */
public final class FaceTest {
    private static final Set<String> FACE = Set.of(
            "class public final RankFusion",
            "public static final int BAD",
            "public static final int FULL",
            "public static final int NONE",
            "public RankFusion(int)",
            "public int RankFusion.begin(int)",
            "public boolean RankFusion.name(int,int)",
            "public boolean RankFusion.remove(int)",
            "public int RankFusion.rankings()",
            "public int RankFusion.prefers(int,int)",
            "public int RankFusion.least()",
            "public int RankFusion.bestAt(int)",
            "public int RankFusion.leastWith(int,int)",
            "public int RankFusion.score(int)",
            "public int RankFusion.scoreAt(int)",
            "public int RankFusion.champion()",
            "public int RankFusion.topSet()",
            "public int RankFusion.strength(int,int)",
            "public int RankFusion.pathWinners()");

    private FaceTest() {
    }

    public static void main(String[] args) {
        Set<String> found = visibleMembers();
        for (String member : FACE) {
            Check.due("the class has: " + member, found.contains(member), true);
        }
        for (String member : found) {
            Check.due("the document has: " + member, FACE.contains(member), true);
        }
        Check.end();
    }

    private static Set<String> visibleMembers() {
        Class<RankFusion> type = RankFusion.class;
        Set<String> found = new TreeSet<>();
        found.add("class " + Modifier.toString(type.getModifiers()) + " " + type.getName());
        for (Field field : type.getDeclaredFields()) {
            if (!Modifier.isPrivate(field.getModifiers())) {
                found.add(Modifier.toString(field.getModifiers()) + " " + field.getType() + " " + field.getName());
            }
        }
        for (Constructor<?> constructor : type.getDeclaredConstructors()) {
            if (!Modifier.isPrivate(constructor.getModifiers())) {
                found.add(constructor.toString());
            }
        }
        for (Method method : type.getDeclaredMethods()) {
            if (!Modifier.isPrivate(method.getModifiers())) {
                found.add(method.toString());
            }
        }
        return found;
    }
}

import java.lang.reflect.Constructor;
import java.lang.reflect.Field;
import java.lang.reflect.Method;
import java.lang.reflect.Modifier;
import java.util.Arrays;
import java.util.Set;
import java.util.TreeSet;

/** The class shows the document's public face and nothing else. */
public final class ChartParserFace {
    private static int wrong = 0;

    private static void due(String what, Object got, Object want) {
        if (!want.equals(got)) {
            wrong++;
            System.out.println(what + " is " + got + ", due is " + want);
        }
    }

    private static Set<String> shownMethods() {
        Set<String> shown = new TreeSet<>();
        for (Method m : ChartParser.class.getDeclaredMethods()) {
            if (!Modifier.isPrivate(m.getModifiers())) {
                shown.add(Modifier.toString(m.getModifiers()) + " " + m.getReturnType() + " " + m.getName() + Arrays.toString(m.getParameterTypes()));
            }
        }
        return shown;
    }

    private static Set<String> dueMethods() {
        return new TreeSet<>(Set.of(
            "public int produce[int, int, int, int]",
            "public boolean retract[]",
            "public boolean action[int, int, int]",
            "public boolean insert[int, int]",
            "public boolean erase[int]",
            "public boolean set[int, int]",
            "public boolean derives[int, int, int]",
            "public int trees[int, int, int]",
            "public int height[int, int, int]",
            "public int longest[int, int]",
            "public long value[int, int, int]",
            "public int node[int]",
            "public int distance[int, int, int]",
            "public int errorAt[]",
            "public int expected[int]",
            "public int traits[int]"));
    }

    private static Set<String> shownFields() {
        Set<String> shown = new TreeSet<>();
        for (Field f : ChartParser.class.getDeclaredFields()) {
            if (!Modifier.isPrivate(f.getModifiers())) {
                shown.add(Modifier.toString(f.getModifiers()) + " " + f.getType() + " " + f.getName());
            }
        }
        return shown;
    }

    public static void main(String[] args) {
        due("modifiers of the class", Modifier.toString(ChartParser.class.getModifiers()), "public final");
        due("methods", shownMethods(), dueMethods());
        due("constants", shownFields(), new TreeSet<>(Set.of(
            "public static final int BAD",
            "public static final int FULL",
            "public static final int ENDLESS",
            "public static final long NONE")));
        Constructor<?>[] constructors = ChartParser.class.getDeclaredConstructors();
        due("constructors", constructors.length, 1);
        due("constructor", constructors[0].toString(), "public ChartParser()");
        due("nested classes", ChartParser.class.getDeclaredClasses().length, 0);
        due("BAD", ChartParser.BAD, -1);
        due("FULL", ChartParser.FULL, -2);
        due("ENDLESS", ChartParser.ENDLESS, -3);
        due("NONE", ChartParser.NONE, Long.MIN_VALUE);
        System.out.println(wrong == 0 ? "all answers are as due" : wrong + " answers are not as due");
        if (wrong != 0) {
            System.exit(1);
        }
    }
}

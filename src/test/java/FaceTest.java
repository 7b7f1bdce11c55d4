import java.lang.reflect.Constructor;
import java.lang.reflect.Field;
import java.lang.reflect.Method;
import java.lang.reflect.Modifier;
import java.nio.file.Files;
import java.nio.file.Path;
import java.util.Set;
import java.util.TreeSet;
import java.util.regex.Matcher;
import java.util.regex.Pattern;

/** The public face, and those rules of LANGUAGE.md that a look at the source's words can tell. */
final class FaceTest {
    private static final Path SOURCE = Path.of("src/main/java/HexWorkbench.java");
    private static final String[] METHODS = {
        "int begin(int)", "int rows()", "int play(int)", "int swap()", "int takeBack()", "int again()",
        "int moves()", "int moveAt(int)", "int turn()", "int winner()", "long stones(int)",
        "long beside(int)", "int chains(int)", "int chainOf(int)", "long chain(int)", "int distance(int)",
        "long shortest(int)", "int cut(int)", "int bridges(int)", "int bridge(int,int,int)",
        "long answers()", "int fillings(int)", "int weight(int)", "long dead()", "int solve()",
        "long winningMoves()", "int duration()", "long winningOpenings(int)",
        "int strength(int,int,int,long)", "int smallestFull(int,int,int,long)", "int addThreat(int,long)",
        "int clearThreats()", "int threats(int)", "long needed(int)", "int randomGames(int,int)",
        "int append(int)", "int clearText()", "int faultPosition()", "int read()", "int save(int)",
        "int restore(int)", "long checksum()",
    };

    public static void main(String[] args) throws Exception {
        face();
        constants();
        words(Files.readString(SOURCE));
        Due.end();
    }

    private static void face() {
        Class<?> type = HexWorkbench.class;
        Due.holds("public and final", Modifier.isPublic(type.getModifiers()) && Modifier.isFinal(type.getModifiers()));
        Set<String> publicNames = new TreeSet<>();
        Set<String> found = new TreeSet<>();
        for (Method method : type.getDeclaredMethods()) {
            if (!Modifier.isPrivate(method.getModifiers())) {
                found.add(signature(method));
                publicNames.add(method.getName());
            }
        }
        Due.holds("the methods are those of the document: " + found, found.equals(new TreeSet<>(Set.of(METHODS))));
        for (Method method : type.getDeclaredMethods()) {
            Due.holds(method + " bears no public name", Modifier.isPublic(method.getModifiers())
                    || !publicNames.contains(method.getName()));
        }
        for (Class<?> inside : type.getDeclaredClasses()) {
            Due.holds(inside + " is static", Modifier.isStatic(inside.getModifiers()));
            for (Method method : inside.getDeclaredMethods()) {
                Due.holds(method + " bears no public name", !publicNames.contains(method.getName()));
            }
        }
        Constructor<?>[] constructors = type.getDeclaredConstructors();
        Due.is("constructors", constructors.length, 1);
        Due.holds("a public constructor without parameters",
                Modifier.isPublic(constructors[0].getModifiers()) && constructors[0].getParameterCount() == 0);
    }

    private static String signature(Method method) {
        StringBuilder text = new StringBuilder();
        text.append(Modifier.isPublic(method.getModifiers()) ? "" : "not public: ");
        text.append(method.getReturnType()).append(' ').append(method.getName()).append('(');
        for (int i = 0; i < method.getParameterCount(); i++) {
            text.append(i == 0 ? "" : ",").append(method.getParameterTypes()[i]);
        }
        return text.append(')').toString();
    }

    private static void constants() throws IllegalAccessException {
        Due.is("BAD_INDEX", HexWorkbench.BAD_INDEX, -11);
        Due.is("BAD_VALUE", HexWorkbench.BAD_VALUE, -12);
        Due.is("NOT_POSSIBLE", HexWorkbench.NOT_POSSIBLE, -13);
        Due.is("FULL", HexWorkbench.FULL, -14);
        Due.is("NONE", HexWorkbench.NONE, -15);
        Due.is("SWAP", HexWorkbench.SWAP, -16);
        int visible = 0;
        for (Field field : HexWorkbench.class.getDeclaredFields()) {
            int modifiers = field.getModifiers();
            visible += Modifier.isPrivate(modifiers) ? 0 : 1;
            Due.holds(field + " is final if static", !Modifier.isStatic(modifiers) || Modifier.isFinal(modifiers));
        }
        Due.is("fields that are not private", visible, 6);
    }

    private static void words(String source) {
        String[] forbidden = {"\\bthrow\\b", "\\btry\\b", "\\bcatch\\b", "\\bsynchronized\\b", "\\bassert\\b",
            "->", "::", "\\bpackage\\b", "\\bimport\\b", "Exact\\b", "\\bwhile\\b", "\\bSystem\\b", "\\bnew [a-z]+\\[\\]\\["};
        String code = source.replaceAll("(?s)/\\*.*?\\*/", "").replaceAll("//[^\n]*", "");
        for (String word : forbidden) {
            Matcher matcher = Pattern.compile(word).matcher(code);
            Due.holds("the source has no " + word, !matcher.find());
        }
    }
}

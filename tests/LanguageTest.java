import java.io.IOException;
import java.lang.reflect.Constructor;
import java.lang.reflect.Field;
import java.lang.reflect.Member;
import java.lang.reflect.Method;
import java.lang.reflect.Modifier;
import java.nio.file.Files;
import java.nio.file.Path;
import java.util.ArrayList;
import java.util.List;
import java.util.Set;
import java.util.TreeSet;
import java.util.regex.Matcher;
import java.util.regex.Pattern;

/** What of ../shared/LANGUAGE.md can be seen from the class and its text without reading it as a person would. */
public final class LanguageTest {
    private static final Path SOURCE = Path.of("src/main/java/ThreadsAndSplits.java");
    private static final int LONGEST_METHOD = 60, MOST_PARAMETERS = 7, MOST_CLASSES = 12, MOST_FIELDS = 20;
    private static final String[] FORBIDDEN = {"throw", "throws", "try", "catch", "finally", "synchronized", "assert",
        "import", "package", "native", "volatile", "transient", "protected", "yield", "var", "goto", "strictfp"};
    /** What the class calls of the library; all else that is called is its own. */
    private static final Set<String> LIBRARY = Set.of("Math.max", "Math.min", "System.arraycopy");
    private static final Set<String> LIBRARY_OF_OBJECTS = Set.of("length", "charAt", "indexOf");
    private static final String FACE = "act/3 actTold/2 actsBy/4 ages/2 back/0 cell/3 chance/3 cheese/5 copy/5 count/1 "
        + "dips/2 drawn/3 feed/6 film/1 flames/0 force/1 forget/0 hour/2 image/0 judge/1 mix/3 most/0 odds/2 order/1 "
        + "pace/2 pot/2 region/0 ripen/3 save/3 set/2 sheet/3 sortTold/2 sours/0 splits/1 strokes/2 table/3 taken/2 "
        + "text/0 week/2 which/1 why/1 wick/2";

    private static int wrong = 0;

    private static void demand(boolean ok, String what) {
        if (!ok) {
            wrong++;
            System.out.println(what);
        }
    }

    /** The text without comments and without what stands between quotes. */
    private static String bare(String source) {
        return source.replaceAll("(?s)/\\*.*?\\*/", "").replaceAll("//[^\n]*", "")
            .replaceAll("\"[^\"\n]*\"", "\"\"").replaceAll("'\\\\?.'", "' '");
    }

    private static void words(String bare) {
        for (String word : FORBIDDEN) {
            demand(!Pattern.compile("\\b" + word + "\\b").matcher(bare).find(), "rule 6: " + word);
        }
        demand(!bare.contains("->") && !bare.contains("::"), "rule 2: a lambda or a method reference");
        demand(!bare.contains("@"), "an annotation");
        demand(!bare.contains("\"\" +") && !bare.contains("+ \"\""), "rule 10: texts joined by +");
    }

    private static void calls(String bare, Set<String> own) {
        Matcher m = Pattern.compile("(?:(\\w+)\\.)?(\\w+)\\(").matcher(bare);
        while (m.find()) {
            String name = m.group(2);
            boolean word = Set.of("if", "for", "while", "switch", "return").contains(name);
            boolean known = own.contains(name) || LIBRARY.contains(m.group(1) + "." + name)
                || m.group(1) != null && LIBRARY_OF_OBJECTS.contains(name);
            demand(word || known, "rule 4: " + m.group());
        }
    }

    private static void lengths(String source) {
        String[] lines = source.split("\n");
        int began = -1;
        String indent = "";
        for (int i = 0; i < lines.length; i++) {
            Matcher head = Pattern.compile("^( +)[\\w\\[\\] ]*\\w+\\(.*\\) \\{$").matcher(lines[i]);
            if (began < 0 && head.find() && !lines[i].trim().matches("(if|for|while|switch|\\}).*")) {
                began = i;
                indent = head.group(1);
            } else if (began >= 0 && lines[i].equals(indent + "}")) {
                demand(i - began < LONGEST_METHOD, "rule 11: long method at line " + (began + 1));
                began = -1;
            }
        }
    }

    private static List<Class<?>> classes() {
        List<Class<?>> all = new ArrayList<>(List.of(ThreadsAndSplits.class));
        all.addAll(List.of(ThreadsAndSplits.class.getDeclaredClasses()));
        return all;
    }

    private static boolean isPrivate(Member m) {
        return Modifier.isPrivate(m.getModifiers()) || m.isSynthetic();
    }

    private static void face() {
        Set<String> face = new TreeSet<>();
        for (Method m : ThreadsAndSplits.class.getDeclaredMethods()) {
            if (Modifier.isPublic(m.getModifiers())) {
                face.add(m.getName() + "/" + m.getParameterCount());
            } else {
                demand(isPrivate(m), "rule 1: not private: " + m);
            }
        }
        demand(String.join(" ", face).equals(FACE), "rule 1: the face is " + String.join(" ", face));
        for (Field f : ThreadsAndSplits.class.getDeclaredFields()) {
            demand(isPrivate(f) || Modifier.isPublic(f.getModifiers()) && f.getName().matches("NONE|BAD|STATE|FULL|NO"),
                "rule 1: " + f);
        }
        Constructor<?>[] made = ThreadsAndSplits.class.getDeclaredConstructors();
        demand(made.length == 1 && made[0].getParameterCount() == 0, "rule 1: constructors");
        demand(Modifier.isFinal(ThreadsAndSplits.class.getModifiers()), "rule 1: final");
    }

    private static void sizes() {
        demand(classes().size() <= MOST_CLASSES, "rule 11: classes");
        for (Class<?> c : classes()) {
            int fields = 0;
            for (Field f : c.getDeclaredFields()) {
                fields += Modifier.isStatic(f.getModifiers()) ? 0 : 1;
                demand(!Modifier.isStatic(f.getModifiers()) || Modifier.isFinal(f.getModifiers()), "rule 5: " + f);
            }
            demand(fields <= MOST_FIELDS, "rule 11: fields of " + c);
            demand(c == ThreadsAndSplits.class || Modifier.isStatic(c.getModifiers()), "rule 2: " + c);
            demand(c.getDeclaredClasses().length == 0 || c == ThreadsAndSplits.class, "rule 2: classes in " + c);
            for (Method m : c.getDeclaredMethods()) {
                demand(m.getParameterCount() <= MOST_PARAMETERS, "rule 11: parameters of " + m);
                demand(c == ThreadsAndSplits.class || !Pattern.compile("\\b" + m.getName() + "/").matcher(FACE).find(),
                    "rule 1: the name of a public one: " + m);
                demand(!m.getName().matches("equals|hashCode|toString"), "rule 6: " + m);
            }
        }
        Set<String> names = new TreeSet<>();
        for (Method m : ThreadsAndSplits.class.getDeclaredMethods()) {
            demand(names.add(m.getName()) || m.isSynthetic(), "rule 1: two methods of one name: " + m);
        }
    }

    private static Set<String> ownNames() {
        Set<String> own = new TreeSet<>();
        for (Class<?> c : classes()) {
            own.add(c.getSimpleName());
            for (Method m : c.getDeclaredMethods()) {
                own.add(m.getName());
            }
        }
        return own;
    }

    public static void main(String[] args) throws IOException {
        String source = Files.readString(SOURCE);
        String bare = bare(source);
        words(bare);
        calls(bare, ownNames());
        lengths(source);
        face();
        sizes();
        demand(source.chars().allMatch(c -> c == '\n' || c >= 32 && c < 127), "rule 4: a sign outside 1 to 127");
        System.out.println(wrong == 0 ? "the language is kept to" : wrong + " rules are broken");
        if (wrong != 0) {
            System.exit(1);
        }
    }
}

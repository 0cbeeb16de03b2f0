import java.lang.reflect.Constructor;
import java.lang.reflect.Field;
import java.lang.reflect.Method;
import java.lang.reflect.Modifier;
import java.nio.file.Files;
import java.nio.file.Path;
import java.util.Arrays;
import java.util.List;
import java.util.Set;
import java.util.TreeSet;
import java.util.regex.Matcher;
import java.util.regex.Pattern;

/** The face of the class, and those rules of LANGUAGE.md that can be seen from its text. */
public final class FarKeysRules {
    private static final String FACE = "int feed(int,int,int,int,int) boolean end(int) int fault(int) int text(int) "
            + "int sign(int,int) int guard(int,int) int hears(int,int) boolean plan(int,int) int ways(int) int odds(int) "
            + "int turnsAt(int,int) int opens(int) int when(int,int) int near(int) int enough() int best(int,int) "
            + "int pair(int,int,int) int sure(int,int) int idle() int shift(int,int) int waits(int,int) int gain(int) "
            + "int rest(int,int,int) int thief(int,int) int scratch(int,int,int) int fits(int) int lies() int sets(int) "
            + "int moment(int) int better(int,int,int) int exact(int) int lossy(int) int route(int,int) int deaf() "
            + "int helper(int) boolean seed(long) int night() int turned(int,int) int opened(int) int undo() int image() "
            + "int back() int count(int)";
    private static final String[] FORBIDDEN = {
        "->", "::", "Exact\\b", "\\btry\\b", "\\bcatch\\b", "\\bfinally\\b", "\\bassert\\b", "\\bsynchronized\\b", "\\bvar\\b",
        "\\bRandom\\b", "\\bThread\\b", "System\\.(?!arraycopy)", "\\bdouble\\b", "\\bfloat\\b", "\\bpackage\\b",
        "\\bprotected\\b", "\\bstatic\\s*\\{", "\\bwhile\\s*\\(true\\)", "for\\s*\\(;;\\)", "\\bnull\\b"};

    private static int wrong = 0;

    private static void holds(boolean so, String what) {
        if (!so) {
            wrong++;
            System.out.println(what);
        }
    }

    public static void main(String[] args) throws Exception {
        face();
        nested();
        String source = Files.readString(Path.of("src/main/java/FarKeys.java"));
        words(source);
        methods(source);
        System.out.println(wrong == 0 ? "the rules that are looked at hold" : wrong + " rules are broken");
        if (wrong != 0) System.exit(1);
    }

    private static void face() {
        holds(Modifier.isPublic(FarKeys.class.getModifiers()) && Modifier.isFinal(FarKeys.class.getModifiers()), "rule 1: public and final");
        Set<String> want = new TreeSet<>(List.of(FACE.split(" (?=int |boolean )")));
        Set<String> got = new TreeSet<>();
        Set<String> names = new TreeSet<>();
        for (Method m : FarKeys.class.getDeclaredMethods()) {
            if (Modifier.isPrivate(m.getModifiers())) continue;
            holds(Modifier.isPublic(m.getModifiers()) && !Modifier.isStatic(m.getModifiers()), "rule 1: " + m);
            String p = String.join(",", Arrays.stream(m.getParameterTypes()).map(Class::getName).toList());
            got.add(m.getReturnType().getName() + " " + m.getName() + "(" + p + ")");
            names.add(m.getName());
        }
        holds(got.equals(want), "rule 1: the face is " + got);
        for (Method m : FarKeys.class.getDeclaredMethods())
            holds(!Modifier.isPrivate(m.getModifiers()) || !names.contains(m.getName()), "rule 1: private " + m.getName());
        for (Constructor<?> c : FarKeys.class.getDeclaredConstructors())
            holds(c.getParameterCount() == 0 && Modifier.isPublic(c.getModifiers()), "rule 1: " + c);
        Set<String> open = new TreeSet<>();
        for (Field f : FarKeys.class.getDeclaredFields()) if (!Modifier.isPrivate(f.getModifiers())) open.add(f.getName());
        holds(open.equals(Set.of("NONE", "HIDDEN")), "rule 1: fields " + open);
        for (Class<?> c : FarKeys.class.getDeclaredClasses())
            for (Method m : c.getDeclaredMethods()) holds(!names.contains(m.getName()), "rule 1: " + m + " bears a name of the face");
    }

    private static void nested() {
        Class<?>[] inside = FarKeys.class.getDeclaredClasses();
        holds(inside.length <= 12, "rule 11: " + inside.length + " classes");
        fields(FarKeys.class);
        for (Class<?> c : inside) {
            holds(Modifier.isStatic(c.getModifiers()) && !Modifier.isPublic(c.getModifiers()), "rule 2: " + c);
            fields(c);
        }
    }

    private static void fields(Class<?> c) {
        int own = 0;
        for (Field f : c.getDeclaredFields()) {
            if (Modifier.isStatic(f.getModifiers())) {
                holds(Modifier.isFinal(f.getModifiers()), "rule 5: " + f);
                holds(Set.of("int", "long", "char[]", "int[]").contains(f.getType().getSimpleName()), "rule 5: " + f);
            } else {
                own++;
            }
        }
        holds(own <= 20, "rule 11: " + own + " fields in " + c);
    }

    private static void words(String source) {
        String bare = source.replaceAll("(?s)/\\*.*?\\*/", "").replaceAll("//[^\n]*", "").replaceAll("\"[^\"\n]*\"", "\"\"");
        for (String word : FORBIDDEN) {
            Matcher m = Pattern.compile(word).matcher(bare);
            holds(!m.find(), "forbidden: " + word);
        }
        Matcher imports = Pattern.compile("import ([^;]*);").matcher(bare);
        while (imports.find()) holds(imports.group(1).equals("java.util.NoSuchElementException"), "rule 4: " + imports.group(1));
        for (int i = 0; i < source.length(); i++) holds(source.charAt(i) < 127, "a sign above 126 at " + i);
    }

    private static void methods(String source) {
        String[] lines = source.split("\n");
        int start = -1;
        String indent = "";
        for (int i = 0; i < lines.length; i++) {
            Matcher m = Pattern.compile("^( {4}| {8})(?!(public|private)? ?(static|abstract)? ?(final )?class )\\w[\\w\\[\\] ]*\\(([^)]*)\\)[^;=]*\\{$").matcher(lines[i]);
            if (start < 0 && m.find()) {
                start = i;
                indent = m.group(1);
                holds(m.group(5).isBlank() || m.group(5).split(",").length <= 7, "rule 11: parameters at line " + (i + 1));
            } else if (start >= 0 && lines[i].equals(indent + "}")) {
                holds(i - start < 60, "rule 11: a long method at line " + (start + 1));
                start = -1;
            }
            holds(lines[i].length() <= 120, "a long line " + (i + 1));
        }
    }
}

import java.io.IOException;
import java.lang.reflect.Constructor;
import java.lang.reflect.Field;
import java.lang.reflect.Method;
import java.lang.reflect.Modifier;
import java.nio.charset.StandardCharsets;
import java.nio.file.Files;
import java.nio.file.Path;
import java.util.ArrayList;
import java.util.List;
import java.util.Set;
import java.util.TreeSet;
import java.util.regex.Matcher;
import java.util.regex.Pattern;

/** The face is the document's and no more, and the source keeps to what of LANGUAGE.md can be seen from outside. */
public final class FaceTest {
    private static final String[] FACE = {
        "int table(int,int,int,int)", "int ship(int)", "int leg(int,int,int,int,int,int)", "int cleaned(int,int,int)",
        "int terms(int,int)", "int log(int,int,int,int,int,int)", "int look(int,int,int,int,int,int)",
        "int of(int,int)", "int leave(int,int)", "int law(int,int,int)", "int share(int,int,int,int)",
        "int span(int,int,int,int)", "int why(int,int,int,int)", "long lost(int,int,int,int,int)",
        "int widest(int,int,int,int)", "int quarrels(int,int,int)", "int quarrel(int,int)", "int right(int,int)",
        "int isRight(int)", "int prove(int,int)", "int proof(int)", "int feed(int,int,int,int,int)", "int end(int)",
        "int check(int,int,int)", "int fault()", "int miss(int,int)", "int curve(int)", "int hidden(int,int,int)",
        "int hid(int)", "int call(int)", "int clear()", "int plan(int,int,int,int)", "long judge(int,int,int,int,int)",
        "int seal()", "int alter(int,int)", "int found()", "int image(int)", "int back(int)", "int count(int)",
        "int status()"};
    private static int wrong = 0;

    private static void want(boolean fine, String what) {
        if (!fine) {
            wrong++;
            System.out.println("not as due: " + what);
        }
    }

    public static void main(String[] args) throws IOException {
        face();
        for (Class<?> c : classes()) members(c);
        want(classes().size() <= 12, "at most twelve classes");
        source();
        System.out.println(wrong == 0 ? "the face and the rules are kept" : wrong + " are not as due");
        if (wrong != 0) System.exit(1);
    }

    private static List<Class<?>> classes() {
        List<Class<?>> all = new ArrayList<>(List.of(ShipSkins.class));
        all.addAll(List.of(ShipSkins.class.getDeclaredClasses()));
        return all;
    }

    private static String told(Method m) {
        List<String> types = new ArrayList<>();
        for (Class<?> t : m.getParameterTypes()) types.add(t.getSimpleName());
        return m.getReturnType().getSimpleName() + " " + m.getName() + "(" + String.join(",", types) + ")";
    }

    private static void face() {
        int modifiers = ShipSkins.class.getModifiers();
        want(Modifier.isPublic(modifiers) && Modifier.isFinal(modifiers), "the class is public and final");
        Set<String> got = new TreeSet<>(), due = new TreeSet<>(List.of(FACE));
        for (Method m : ShipSkins.class.getDeclaredMethods()) {
            if (!Modifier.isPrivate(m.getModifiers())) {
                got.add(told(m));
                want(m.getModifiers() == Modifier.PUBLIC, m.getName() + " is public and nothing else");
            }
        }
        want(got.equals(due), "the methods: " + got);
        Constructor<?>[] makers = ShipSkins.class.getDeclaredConstructors();
        want(makers.length == 1 && makers[0].getParameterCount() == 0, "one constructor");
        want(Modifier.isPublic(makers[0].getModifiers()), "the constructor is public");
        for (Field f : ShipSkins.class.getDeclaredFields()) {
            boolean none = f.getName().equals("NONE");
            want(none || Modifier.isPrivate(f.getModifiers()), f.getName() + " is private");
        }
        want(ShipSkins.NONE == -1, "NONE");
    }

    private static void members(Class<?> c) {
        Set<String> names = new TreeSet<>();
        for (String row : FACE) names.add(row.substring(row.indexOf(' ') + 1, row.indexOf('(')));
        for (Method m : c.getDeclaredMethods()) {
            want(m.getParameterCount() <= 7, c.getName() + "." + m.getName() + " takes seven numbers at most");
            if (Modifier.isPrivate(m.getModifiers())) {
                want(!names.contains(m.getName()), c.getName() + "." + m.getName() + " bears a public name");
            }
        }
        int fields = 0;
        for (Field f : c.getDeclaredFields()) {
            if (!Modifier.isStatic(f.getModifiers())) fields++;
            else want(Modifier.isFinal(f.getModifiers()), f.getName() + " is static and final");
        }
        want(fields <= 20, c.getName() + " has twenty fields at most, not " + fields);
        if (c != ShipSkins.class) {
            want(Modifier.isStatic(c.getModifiers()), c.getName() + " is static");
            want(c.getDeclaredClasses().length == 0, c.getName() + " has no classes inside");
        }
    }

    private static void source() throws IOException {
        String text = Files.readString(Path.of("src/main/java/ShipSkins.java"), StandardCharsets.ISO_8859_1);
        for (char c : text.toCharArray()) want(c == '\n' || c >= 32 && c < 127, "a sign that is no plain one: " + (int) c);
        String bare = text.replaceAll("(?s)/\\*.*?\\*/", "").replaceAll("//[^\n]*", "");
        for (String word : new String[] {"throw", "throws", "try", "catch", "synchronized", "assert", "import",
            "package", "native", "volatile", "interface", "instanceof", "toString", "hashCode", "equals", "Object"}) {
            want(!Pattern.compile("\\b" + word + "\\b").matcher(bare).find(), "the word " + word);
        }
        want(!bare.contains("->") && !bare.contains("::"), "no lambda, no method reference");
        want(!Pattern.compile("\\w+Exact\\b").matcher(bare).find(), "none whose name ends in Exact");
        Matcher library = Pattern.compile("\\b(Math|Integer|Long|System|Arrays|String|StringBuilder|Character)\\b\\.?\\w*")
            .matcher(bare);
        Set<String> fine = Set.of("Math.max", "Math.min", "Math.floorDiv", "Integer.bitCount", "System.arraycopy");
        while (library.find()) want(fine.contains(library.group()), "the library: " + library.group());
        int begun = 0;
        String[] lines = bare.split("\n");
        for (int i = 0; i < lines.length; i++) {
            if (lines[i].matches("( {4}| {8})(public|private) .*\\) \\{")) begun = i;
            if (lines[i].matches("( {4}| {8})\\}")) want(i - begun < 60, "a method of " + (i - begun) + " lines");
        }
    }
}

import java.lang.reflect.Constructor;
import java.lang.reflect.Field;
import java.lang.reflect.Method;
import java.lang.reflect.Modifier;
import java.nio.charset.StandardCharsets;
import java.nio.file.Files;
import java.nio.file.Path;
import java.util.ArrayList;
import java.util.Arrays;
import java.util.List;
import java.util.Set;
import java.util.TreeSet;

/** The rules of LANGUAGE.md that can be looked at from outside, and the document's face. */
public final class LanguageTest {
    private static final Due due = new Due("LanguageTest");

    private static final String[] FACE = {
        "int looker(int)", "int lookers(int,int,int)", "int mend(int,int,int)", "int of(int,int)", "int feed(int)", "int law()",
        "int finds(int,int)", "long left(int,int,int,int)", "long mean(int,int,int,int)", "long worth(int,int,int)",
        "int next(int,int)", "long plan(int,int,int)", "long buy(int)", "long lists(int,int,int)", "int likeliest(int)",
        "int seesFor(int)", "long besides(int,int,int)", "long handful(int,int,int,int)", "int heaps(int,int,int)",
        "int who(int,int,int,int)", "int drawn(int,int,int,int)", "int open(int,int)", "int look(int)", "int eat()",
        "int led(int)", "int image()", "int back()", "int undo()", "int redo()", "int body(int)", "int act(int,int,int)",
        "int trace(int)", "int keep(int,int)", "int row(int,int,int)", "int put(int,int,long)", "long element(int,int)",
        "int shift(int,int,int,int,int)", "int taken(int,int)", "int count(int)"};

    public static void main(String[] args) throws Exception {
        face();
        members();
        String source = System.getProperty("source", "src/main/java/StoneInLentils.java");
        words(Files.readString(Path.of(source), StandardCharsets.ISO_8859_1));
        due.end();
    }

    private static String told(Method m) {
        List<String> types = new ArrayList<>();
        for (Class<?> type : m.getParameterTypes()) types.add(type.getName());
        return m.getReturnType().getName() + " " + m.getName() + "(" + String.join(",", types) + ")";
    }

    private static void face() {
        Set<String> want = new TreeSet<>(Arrays.asList(FACE));
        Set<String> names = new TreeSet<>();
        Set<String> has = new TreeSet<>();
        for (Method m : StoneInLentils.class.getDeclaredMethods()) {
            if (Modifier.isPrivate(m.getModifiers())) continue;
            has.add(told(m));
            names.add(m.getName());
            due.holds("1: " + m + " is public and no static one", Modifier.isPublic(m.getModifiers()) && !Modifier.isStatic(m.getModifiers()));
        }
        due.holds("1: the face: " + has, has.equals(want));
        List<Class<?>> all = new ArrayList<>(Arrays.asList(StoneInLentils.class.getDeclaredClasses()));
        all.add(StoneInLentils.class);
        for (Class<?> c : all) {
            for (Method m : c.getDeclaredMethods()) {
                boolean isOfFace = c == StoneInLentils.class && Modifier.isPublic(m.getModifiers());
                due.holds("1: " + m + " bears no public name", isOfFace || !names.contains(m.getName()));
                due.holds("11: " + m + " takes at most seven", m.getParameterCount() <= 7);
            }
        }
        Constructor<?>[] made = StoneInLentils.class.getDeclaredConstructors();
        due.holds("1: one constructor", made.length == 1 && Modifier.isPublic(made[0].getModifiers()));
        due.holds("1: final", Modifier.isFinal(StoneInLentils.class.getModifiers()));
        long constants = StoneInLentils.BAD + 10L * StoneInLentils.NOT + 100L * StoneInLentils.FULL + 1000L * StoneInLentils.STATE;
        due.is("1: constants", constants, -1 - 20 - 300 - 5000);
        due.is("1: VOID", StoneInLentils.VOID, -2000000000);
    }

    private static void members() {
        List<Class<?>> all = new ArrayList<>(Arrays.asList(StoneInLentils.class.getDeclaredClasses()));
        for (Class<?> c : all) {
            due.holds("2: " + c + " is static", Modifier.isStatic(c.getModifiers()));
            due.holds("1: " + c + " is not public", !Modifier.isPublic(c.getModifiers()) && !Modifier.isProtected(c.getModifiers()));
            due.is("2: no class within " + c, c.getDeclaredClasses().length, 0);
        }
        all.add(StoneInLentils.class);
        due.holds("11: at most twelve classes", all.size() <= 12);
        Set<String> open = new TreeSet<>(Arrays.asList("BAD", "NOT", "FULL", "STATE", "VOID"));
        for (Class<?> c : all) {
            int fields = 0;
            for (Field f : c.getDeclaredFields()) {
                boolean isStatic = Modifier.isStatic(f.getModifiers());
                due.holds("5: " + f + " is final", !isStatic || Modifier.isFinal(f.getModifiers()));
                boolean isOpen = Modifier.isPublic(f.getModifiers());
                due.holds("1: " + f, isOpen == (c == StoneInLentils.class && open.contains(f.getName())));
                if (c == StoneInLentils.class) due.holds("1: " + f, isOpen || Modifier.isPrivate(f.getModifiers()));
                if (!isStatic) fields++;
            }
            due.holds("11: at most twenty fields in " + c, fields <= 20);
        }
    }

    /** The text without comments, and with empty signs and texts. */
    private static String bare(String source) {
        return source.replaceAll("(?s)/\\*.*?\\*/", "").replaceAll("//[^\n]*", "")
            .replaceAll("'(\\\\.|[^'\\\\])'", "0").replaceAll("\"(\\\\.|[^\"\\\\])*\"", "0");
    }

    private static void words(String source) {
        String text = bare(source);
        for (String word : new String[] {"throw", "throws", "try", "catch", "finally", "synchronized", "assert", "import", "package",
            "double", "float", "Object", "var", "volatile", "native", "strictfp", "yield", "goto"}) {
            due.holds("no " + word, !java.util.regex.Pattern.compile("\\b" + word + "\\b").matcher(text).find());
        }
        due.holds("2: no lambda", !text.contains("->"));
        due.holds("2: no method reference", !text.contains("::"));
        due.holds("4: signs up to 127", source.chars().allMatch(c -> c < 128));
        int long60 = 0;
        int began = -1;
        String[] lines = text.split("\n", -1);
        for (int i = 0; i < lines.length; i++) {
            String line = lines[i];
            if (line.matches("( {4}| {8})[^ }].*\\) \\{")) began = i;
            if (line.matches("( {4}| {8})\\}") && began >= 0) {
                if (i - began > 60) long60++;
                began = -1;
            }
            // all that is made is made with the object: a run of calls makes nothing more
            if (line.contains("new ")) due.holds("12: " + line.trim(), line.contains(" final ") || line.contains("shelves[i] = new Shelf()"));
        }
        due.is("11: methods of more than sixty lines", long60, 0);
    }
}

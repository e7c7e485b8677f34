import java.io.IOException;
import java.lang.reflect.Constructor;
import java.lang.reflect.Field;
import java.lang.reflect.Method;
import java.lang.reflect.Modifier;
import java.nio.file.Files;
import java.nio.file.Path;
import java.util.List;
import java.util.Set;
import java.util.TreeSet;
import java.util.regex.Matcher;
import java.util.regex.Pattern;

/** The public face is the document's, and the source keeps to what LANGUAGE.md lets be seen from outside. */
public final class FaceTest {
    private static final Path SOURCE = Path.of("src/main/java/LakeSwimmers.java");
    private static final String FACE = "current 2,set 2,flow 1,swimmer 2,ofSwimmer 2,train 2,plan 3,become 2,as 2,"
        + "pace 2,feed 2,text 1,law 4,where 2,meet 3,year 2,loose 2,bestPlan 3,hold 3,ask 2,leastSight 2,send 1,"
        + "diary 5,training 3,fair 2,seed 1,voice 3,trace 1,sheet 3,put 3,move 5,years 1,judge 2,image 0,restore 0,"
        + "tell 1,check 2,count 1,told 1";

    public static void main(String[] args) throws IOException {
        face();
        for (Class<?> inside : LakeSwimmers.class.getDeclaredClasses()) {
            inside(inside);
        }
        words();
        lengths();
        Due.finish("FaceTest");
    }

    private static void face() {
        Set<String> due = new TreeSet<>(List.of(FACE.split(",")));
        Set<String> is = new TreeSet<>();
        for (Method m : LakeSwimmers.class.getDeclaredMethods()) {
            if (Modifier.isPublic(m.getModifiers())) {
                is.add(m.getName() + " " + m.getParameterCount());
                Due.due(m.getName() + " gives an int", m.getReturnType() == int.class ? 1 : 0, 1);
                for (Class<?> p : m.getParameterTypes()) {
                    boolean isWord = m.getName().equals("feed") && m.getParameterTypes()[0] == p;
                    Due.due("an argument of " + m.getName(), p == (isWord ? long.class : int.class) ? 1 : 0, 1);
                }
            } else {
                Due.due(m.getName() + " is private", Modifier.isPrivate(m.getModifiers()) ? 1 : 0, 1);
                Due.due(m.getName() + " is no public name", FACE.contains(m.getName() + " ") ? 1 : 0, 0);
            }
        }
        Due.due("the face is " + is, is.equals(due) ? 1 : 0, 1);
        Constructor<?>[] made = LakeSwimmers.class.getDeclaredConstructors();
        Due.due("constructors", made.length, 1);
        Due.due("its arguments", made[0].getParameterCount(), 0);
        Due.due("final", Modifier.isFinal(LakeSwimmers.class.getModifiers()) ? 1 : 0, 1);
        fields(LakeSwimmers.class);
        for (Field f : LakeSwimmers.class.getDeclaredFields()) {
            Due.due("field " + f.getName() + " is private", Modifier.isPrivate(f.getModifiers()) ? 1 : 0, 1);
        }
    }

    private static void inside(Class<?> c) {
        Due.due(c + " is static", Modifier.isStatic(c.getModifiers()) ? 1 : 0, 1);
        Due.due(c + " is hidden", Modifier.isPublic(c.getModifiers()) ? 1 : 0, 0);
        fields(c);
    }

    private static void fields(Class<?> c) {
        int own = 0;
        for (Field f : c.getDeclaredFields()) {
            boolean isStatic = Modifier.isStatic(f.getModifiers());
            own += isStatic ? 0 : 1;
            Due.due(f + " is final, if static", isStatic && !Modifier.isFinal(f.getModifiers()) ? 1 : 0, 0);
        }
        Due.due(c + " has some twenty fields", own <= 20 ? 1 : 0, 1);
        for (Method m : c.getDeclaredMethods()) {
            Due.due(m + " takes seven at most", m.getParameterCount() <= 7 ? 1 : 0, 1);
        }
    }

    private static void words() throws IOException {
        String code = Files.readString(SOURCE).replaceAll("(?s)/\\*.*?\\*/", "").replaceAll("//.*", "")
            .replace("@Override", "").replaceAll("(case [^;:]*?|default) ->", "");
        Matcher m = Pattern.compile("\\b(import|package|throw|throws|try|catch|finally|synchronized|assert|var|volatile"
            + "|transient|native|Object|Math\\.\\w+Exact|hashCode|Random|Thread|Exception)\\b|->|::|@").matcher(code);
        while (m.find()) {
            Due.due("the source says " + m.group(), 1, 0);
        }
        for (char c : code.toCharArray()) {
            if (c > 126 || c < ' ' && c != '\n') {
                Due.due("a sign", c, 0);
            }
        }
    }

    /** Methods of nested classes begin with 8 blanks, those of the outer one with 4. */
    private static void lengths() throws IOException {
        int begun = 0;
        String end = "";
        List<String> lines = Files.readAllLines(SOURCE);
        for (int i = 0; i < lines.size(); i++) {
            String line = lines.get(i);
            String blanks = line.substring(0, line.length() - line.stripLeading().length());
            boolean begins = line.endsWith(") {") && (blanks.length() == 4 || blanks.length() == 8)
                && !line.strip().matches("(if|for|while|switch|\\}).*");
            if (begins) {
                begun = i;
                end = blanks + "}";
            } else if (line.equals(end)) {
                Due.due("a short method at line " + (begun + 1), i - begun <= 70 ? 1 : 0, 1);
                end = "";
            }
        }
    }
}

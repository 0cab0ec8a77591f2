import java.lang.reflect.Constructor;
import java.lang.reflect.Field;
import java.lang.reflect.Method;
import java.lang.reflect.Modifier;
import java.nio.file.Files;
import java.nio.file.Path;
import java.util.ArrayList;
import java.util.HashSet;
import java.util.List;
import java.util.Set;
import java.util.TreeSet;
import java.util.regex.Matcher;
import java.util.regex.Pattern;

/** The class has the document's face and no more, and its source keeps to what LANGUAGE.md lets be checked by reading. */
public final class FaceTests {
    private static final String FACE = "feed(int,int,int,int,int) back(int) text() add(int) drop(int) change(int,int) swap(int,int)"
        + " without(int) only(int,boolean) join(int,int) turn() flip() reduce(int) thin(int) undo() set(int,int) degree(int) having(int)"
        + " isFlower(int) core(int) greatest(int) flower(int) flowers(int) byCore(int,int) cores(int) most(int) surplus(int) uneven(int)"
        + " pairs(int) parts() ranked(int) spread(int,int) spreadest() bound(int,int) sized(int) hits(int) missed(int) hitter(int)"
        + " tight(int) greedy(int) apart(int) exact(int) halves(int) kernel(int,int) kernelSet(int,int) step(int,int,int) can(int)"
        + " link(int,int) withSet(int) withoutSet(int) freeNext(int) spell(int) report(int,int) count(int)";
    private static int wrong = 0;

    private static void want(boolean holds, String what) {
        if (!holds) { wrong++; System.out.println("not so: " + what); }
    }

    private static void face() {
        Class<?> c = PetalSets.class;
        want(Modifier.isPublic(c.getModifiers()) && Modifier.isFinal(c.getModifiers()), "the class is public and final");
        Set<String> due = new TreeSet<>(List.of(FACE.split(" ")));
        Set<String> names = new HashSet<>();
        for (Method m : c.getDeclaredMethods()) {
            if (Modifier.isPrivate(m.getModifiers())) continue;
            StringBuilder s = new StringBuilder(m.getName()).append('(');
            for (Class<?> p : m.getParameterTypes()) s.append(s.charAt(s.length() - 1) == '(' ? "" : ",").append(p.getName());
            s.append(')');
            names.add(m.getName());
            want(due.remove(s.toString()), s + " is in the document");
            want(m.getModifiers() == Modifier.PUBLIC, s + " is public, and no more");
            want(m.getReturnType() == (m.getName().equals("drop") ? boolean.class : int.class), s + " answers as the document says");
        }
        want(due.isEmpty(), "there are " + due);
        for (Constructor<?> k : c.getDeclaredConstructors()) want(k.getParameterCount() == 0 && Modifier.isPublic(k.getModifiers()), "one constructor");
        for (Field f : c.getDeclaredFields()) {
            want(Modifier.isPrivate(f.getModifiers()) || f.getName().equals("NONE"), f + " is private");
            want(!Modifier.isStatic(f.getModifiers()) || Modifier.isFinal(f.getModifiers()), f + " is final");
        }
        want(c.getDeclaredClasses().length <= 11, "twelve classes at most");
        List<Class<?>> all = new ArrayList<>(List.of(c.getDeclaredClasses()));
        for (Class<?> d : all) want(Modifier.isStatic(d.getModifiers()) && !Modifier.isPublic(d.getModifiers()), d + " is static and not public");
        all.add(c);
        for (Class<?> d : all) {
            int fields = 0;
            for (Field f : d.getDeclaredFields()) if (!Modifier.isStatic(f.getModifiers())) fields++;
            want(fields <= 20, d + " has twenty fields at most");
            for (Method m : d.getDeclaredMethods()) {
                want(d == c && Modifier.isPublic(m.getModifiers()) || !names.contains(m.getName()), m + " bears a name of its own");
                want(m.getParameterCount() <= 7, m + " takes seven parameters at most");
            }
        }
    }

    private static void source() throws java.io.IOException {
        String text = Files.readString(Path.of("src/main/java/PetalSets.java"));
        for (char c : text.toCharArray()) want(c == '\n' || c >= 32 && c < 127, "plain bytes in the source");
        String code = text.replaceAll("(?s)/\\*.*?\\*/", " ").replaceAll("//[^\n]*", " ").replaceAll("\"[^\"\n]*\"", "\"\"");
        for (String word : List.of("throw", "try", "catch", "finally", "synchronized", "assert", "import", "package", "native", "volatile",
            "protected", "var", "Object", "System", "Thread", "hashCode", "toString", "equals"))
            want(!Pattern.compile("\\b" + word + "\\b").matcher(code).find(), "no '" + word + "' in the source");
        for (String sign : List.of("->", "::", "@")) want(!code.contains(sign), "no '" + sign + "' in the source");
        Matcher news = Pattern.compile("(?m)^( *)(.*\\bnew\\b.*)$").matcher(code);
        while (news.find())
            want(news.group(2).startsWith("final ") || news.group(2).matches("\\w+ = new \\w+\\(\\);"), "made once, in a constructor: " + news.group(2));
        int start = -1;
        String[] lines = text.split("\n");
        for (int i = 0; i < lines.length; i++) {
            if (lines[i].matches(" {4}( {4})?\\w.*\\) \\{") && !lines[i].contains(" class ") && !lines[i].matches(" *(if|for|while|switch).*")) start = i;
            if (start >= 0 && lines[i].matches(" {4}( {4})?\\}")) { want(i - start <= 60, "a short method at line " + (start + 1)); start = -1; }
        }
    }

    public static void main(String[] args) throws java.io.IOException {
        face();
        source();
        System.out.println(wrong == 0 ? "the face is the document's" : wrong + " things are not so");
        if (wrong != 0) System.exit(1);
    }
}
